set_option maxRecDepth 100000 in
theorem z_clear_2 {b0 : St_Bo} {a c d e f : Int32} : ∀ n q (W : St_Bo) (M : Nat → Int32), q + n = 64 → z_BdM M W → ∃ b', z_BdM (fun j => if q ≤ j ∧ j < 64 then 0 else M j) b' ∧
    f_Po_clear_2 b0 a c d e f (n + 1) (nI q) W = (b', 0, 0, -1, 0, 1) := by
  intro n
  induction n with
  | zero =>
    intro q W M h hB
    refine ⟨W, hB.to (fun j hj => by rw [if_neg (by omega)]), ?_⟩
    rw [f_Po_clear_2]; dsimp only
    rw [if_pos (by rw [show q = 64 by omega]; decide)]
  | succ n ih =>
    intro q W M h hB
    have hq : q < 64 := by omega
    have hB' := hB.put hq (show z_vm 0 = true by decide)
    obtain ⟨b', h1, h2⟩ := ih (q + 1) _ _ (by omega) hB'
    refine ⟨b', h1.to (fun j hj => ?_), ?_⟩
    · unfold upd
      by_cases c1 : j = q
      · rw [if_neg (by omega), if_pos c1, if_pos (by omega)]
      · by_cases c2 : q ≤ j ∧ j < 64
        · rw [if_pos (by omega), if_pos c2]
        · rw [if_neg (by omega), if_neg c1, if_neg c2]
    · rw [f_Po_clear_2]; dsimp only
      rw [if_neg (z_nI_lt64 q hq), f_Po_clear_r14, z_nI_add1 q hq]; exact h2
set_option maxRecDepth 100000 in
theorem z_clear_eq {W : St_Bo} {M : Nat → Int32} (hB : z_BdM M W) (a c d e f : Int32) : ∃ b', z_BdM (fun _ => 0) b' ∧ f_Po_clear W a c d e f = (b', 0, 0, -1, 0, 1) := by
  obtain ⟨b', h1, h2⟩ := z_clear_2 (b0 := W) (a := a) (c := c) (d := d) (e := e) (f := f) 64 0 W M rfl hB
  exact ⟨b', h1.to (fun j hj => by rw [if_pos (by omega)]), h2⟩
set_option maxRecDepth 100000 in
theorem z_copy_2 {b0 x : St_Bo} {a c d e f a' c' d' e' f' : Int32} {X : Nat → Int32} (hX : z_BdM X x) : ∀ n q (W : St_Bo) (M : Nat → Int32), q + n = 64 → z_BdM M W → ∃ b', z_BdM (fun j => if q ≤ j ∧ j < 64 then X j else M j) b' ∧
    f_Po_copy_2 b0 a c d e f x a' c' d' e' f' (n + 1) (nI q) W = (b', a', c', d', e', f') := by
  intro n
  induction n with
  | zero =>
    intro q W M h hB
    refine ⟨W, hB.to (fun j hj => by rw [if_neg (by omega)]), ?_⟩
    rw [f_Po_copy_2]; dsimp only
    rw [if_pos (by rw [show q = 64 by omega]; decide)]
  | succ n ih =>
    intro q W M h hB
    have hq : q < 64 := by omega
    have hm : f_Bo_manAt x.1 (nI q) = X q := by rw [z_manAt_eq _ hq, hX.2 q hq]
    have hv : z_vm (X q) = true := by rw [← hX.2 q hq]; exact hX.1.1 q hq
    have hB' := hB.put hq hv
    obtain ⟨b', h1, h2⟩ := ih (q + 1) _ _ (by omega) hB'
    refine ⟨b', h1.to (fun j hj => ?_), ?_⟩
    · unfold upd
      by_cases c1 : j = q
      · rw [if_neg (by omega), if_pos c1, if_pos (by omega), c1]
      · by_cases c2 : q ≤ j ∧ j < 64
        · rw [if_pos (by omega), if_pos c2]
        · rw [if_neg (by omega), if_neg c1, if_neg c2]
    · rw [f_Po_copy_2]; dsimp only
      rw [if_neg (z_nI_lt64 q hq), hm, f_Po_copy_r21, z_nI_add1 q hq]; exact h2
set_option maxRecDepth 100000 in
theorem z_copy_eq {W x : St_Bo} {M X : Nat → Int32} (hB : z_BdM M W) (hX : z_BdM X x) (a c d e f a' c' d' e' f' : Int32) : ∃ b', z_BdM X b' ∧ f_Po_copy W a c d e f x a' c' d' e' f' = (b', a', c', d', e', f') := by
  obtain ⟨b', h1, h2⟩ := z_copy_2 (b0 := W) (a := a) (c := c) (d := d) (e := e) (f := f) (a' := a') (c' := c') (d' := d') (e' := e') (f' := f') hX 64 0 W M rfl hB
  exact ⟨b', h1.to (fun j hj => by rw [if_pos (by omega)]), h2⟩
def z_oneK (men : Nat → Int32) (s : Nat) : Bool := decide (z_cF (fun q => decide (men q = nI (6 + 8 * s))) 0 64 = 1)
def z_pawnE (men : Nat → Int32) : Bool := (List.range 8).any (fun f => decide (men f &&& 7 = 1) || decide (men (56 + f) &&& 7 = 1))
def z_chk (men : Nat → Int32) (s : Nat) : Bool := (List.range 64).any (fun k => decide (men k = nI (6 + 8 * (1 - s))) && z_atk men s k)
def z_rtOk (P : z_Pos) (s w : Nat) : Bool := !P.rights.testBit (2 * s + w) || (decide (P.men (z_home s) = nI (6 + 8 * s)) && decide (P.men (56 * s + (if w = 0 then 7 else 0)) = nI (4 + 8 * s)))
def z_psOk (P : z_Pos) : Bool := decide (64 ≤ P.passed) || (z_fre P.men P.passed && decide (P.passed / 8 = if P.side = 0 then 5 else 2) && decide (P.men (if P.side = 0 then P.passed - 8 else P.passed + 8) = nI (1 + 8 * (1 - P.side))) && z_fre P.men (if P.side = 0 then P.passed + 8 else P.passed - 8) && (List.range 64).any (fun q => decide (P.men q = nI (1 + 8 * P.side)) && z_pnHit (decide (P.side = 0)) q P.passed))
def z_fltN (P : z_Pos) : Nat :=
  if !(z_oneK P.men 0 && z_oneK P.men 1) then 2
  else if z_pawnE P.men then 3
  else if z_chk P.men P.side then 4
  else if !(z_rtOk P 0 0 && z_rtOk P 0 1 && z_rtOk P 1 0 && z_rtOk P 1 1) then 5
  else if !z_psOk P then 6 else 0
set_option maxRecDepth 100000 in
theorem z_cF_one {p : Nat → Bool} : ∀ n q, z_cF p q n = 1 → ∃ k, q ≤ k ∧ k < q + n ∧ ∀ r, q ≤ r → r < q + n → (p r = true ↔ r = k) := by
  have zero : ∀ n q, z_cF p q n = 0 → ∀ r, q ≤ r → r < q + n → p r = false := by
    intro n
    induction n with
    | zero => intro q h r h1 h2; omega
    | succ n ih =>
      intro q h r h1 h2
      rw [z_cF] at h
      cases c : p q
      · rw [c] at h; simp at h
        rcases Nat.eq_or_lt_of_le h1 with e | e
        · rw [← e]; exact c
        · exact ih (q + 1) h r e (by omega)
      · rw [c] at h; simp at h
  intro n
  induction n with
  | zero => intro q h; rw [z_cF] at h; cases h
  | succ n ih =>
    intro q h
    rw [z_cF] at h
    cases c : p q
    · rw [c] at h; simp at h
      obtain ⟨k, h1, h2, h3⟩ := ih (q + 1) h
      refine ⟨k, by omega, by omega, ?_⟩
      intro r a b
      rcases Nat.eq_or_lt_of_le a with e | e
      · subst e; rw [c]; exact ⟨fun g => (by cases g), fun g => by omega⟩
      · exact h3 r e (by omega)
    · rw [c] at h; simp at h
      have h0 : z_cF p (q + 1) n = 0 := by omega
      refine ⟨q, Nat.le_refl _, by omega, ?_⟩
      intro r a b
      rcases Nat.eq_or_lt_of_le a with e | e
      · subst e; exact ⟨fun _ => rfl, fun _ => c⟩
      · rw [zero n (q + 1) h0 r e (by omega)]; exact ⟨fun g => (by cases g), fun g => (by omega)⟩
set_option maxRecDepth 100000 in
theorem z_oneK_is {men : Nat → Int32} {s : Nat} (h : z_oneK men s = true) : ∃ k, z_isK men s k := by
  rw [z_oneK, decide_eq_true_eq] at h
  obtain ⟨k, -, h2, h3⟩ := z_cF_one 64 0 h
  refine ⟨k, by omega, ?_⟩
  intro q hq
  have := h3 q (by omega) (by omega)
  rw [decide_eq_true_eq] at this; exact this
set_option maxRecDepth 100000 in
theorem z_flt_val {P : z_Pos} (hs : P.side < 2) (hr : P.rights < 16) (hp : P.passed ≤ 64) (hv : ∀ q, q < 64 → z_vm (P.men q) = true) (h : z_fltN P = 0) : z_Val P := by
  unfold z_fltN at h
  by_cases c1 : (!(z_oneK P.men 0 && z_oneK P.men 1)) = true
  · rw [if_pos c1] at h; cases h
  rw [if_neg c1] at h
  by_cases c2 : z_pawnE P.men = true
  · rw [if_pos c2] at h; cases h
  rw [if_neg c2] at h
  by_cases c3 : z_chk P.men P.side = true
  · rw [if_pos c3] at h; cases h
  rw [if_neg c3] at h
  by_cases c4 : (!(z_rtOk P 0 0 && z_rtOk P 0 1 && z_rtOk P 1 0 && z_rtOk P 1 1)) = true
  · rw [if_pos c4] at h; cases h
  rw [if_neg c4] at h
  by_cases c5 : (!z_psOk P) = true
  · rw [if_pos c5] at h; cases h
  have k1 : z_oneK P.men 0 = true ∧ z_oneK P.men 1 = true := by simpa [Bool.and_eq_true] using c1
  have k4 : ((z_rtOk P 0 0 = true ∧ z_rtOk P 0 1 = true) ∧ z_rtOk P 1 0 = true) ∧ z_rtOk P 1 1 = true := by
    have c4' : (z_rtOk P 0 0 && z_rtOk P 0 1 && z_rtOk P 1 0 && z_rtOk P 1 1) = true := by simpa using c4
    simpa [Bool.and_eq_true] using c4'
  have k5 : z_psOk P = true := by simpa using c5
  refine ⟨hs, hr, hp, hv, ?_, ?_, ?_, ?_⟩
  · intro s hs2
    have : s = 0 ∨ s = 1 := by omega
    rcases this with rfl | rfl
    · exact z_oneK_is k1.1
    · exact z_oneK_is k1.2
  · intro s hs2 w hw hb
    have key : z_rtOk P s w = true := by
      have a : s = 0 ∨ s = 1 := by omega
      have b : w = 0 ∨ w = 1 := by omega
      rcases a with rfl | rfl <;> rcases b with rfl | rfl
      · exact k4.1.1.1
      · exact k4.1.1.2
      · exact k4.1.2
      · exact k4.2
    rw [z_rtOk, hb] at key
    simpa [Bool.and_eq_true] using key
  · intro h64
    rw [z_psOk] at k5
    have n64 : ¬ 64 ≤ P.passed := by omega
    simp only [n64, decide_false, Bool.false_or, Bool.and_eq_true, decide_eq_true_eq, z_fre] at k5
    exact ⟨k5.1.1.1.1, k5.1.1.1.2, k5.1.1.2, k5.1.2⟩
  · intro k hk
    rw [← Bool.not_eq_true]
    intro ha
    apply c3
    unfold z_chk
    rw [List.any_eq_true]
    refine ⟨k, List.mem_range.mpr hk.1, ?_⟩
    rw [Bool.and_eq_true, decide_eq_true_eq]
    exact ⟨(hk.2 k hk.1).mpr rfl, ha⟩
set_option maxRecDepth 100000 in
theorem z_chk_K {men : Nat → Int32} {s k : Nat} (hk : z_isK men (1 - s) k) : z_chk men s = z_atk men s k := by
  rw [Bool.eq_iff_iff]
  unfold z_chk
  rw [List.any_eq_true]
  constructor
  · rintro ⟨j, h1, h2⟩
    rw [Bool.and_eq_true, decide_eq_true_eq] at h2
    rw [← (hk.2 j (List.mem_range.mp h1)).mp h2.1]; exact h2.2
  · intro h
    exact ⟨k, List.mem_range.mpr hk.1, by rw [Bool.and_eq_true, decide_eq_true_eq]; exact ⟨(hk.2 k hk.1).mpr rfl, h⟩⟩
set_option maxRecDepth 100000 in
theorem z_countOf_4 (men : Nat → Int32) (m : Int32) : ∀ n q c, q + n = 64 → f_Mo_countOf_4 men m (n + 1) (nI c) (nI q) = nI (c + z_cF (fun q => decide (men q = m)) q n) := by
  intro n
  induction n with
  | zero =>
    intro q c h
    rw [f_Mo_countOf_4]; dsimp only
    rw [if_pos (by rw [show q = 64 by omega]; decide)]; rfl
  | succ n ih =>
    intro q c h
    have hq : q < 64 := by omega
    rw [f_Mo_countOf_4]; dsimp only
    rw [if_neg (z_nI_lt64 q hq), z_nI_clamp (by omega), z_nI_add1 q hq, show nI c + 1 = nI (c + 1) from z_nI_add c 1, z_cF]
    by_cases e : men q = m
    · rw [if_pos e, ih (q + 1) (c + 1) (by omega)]
      congr 1
      simp only [e, decide_true, if_true]; omega
    · rw [if_neg e, ih (q + 1) c (by omega)]
      congr 1
      simp only [e, decide_false, Bool.false_eq_true, if_false]; omega
set_option maxRecDepth 100000 in
theorem z_countOf_K (men : Nat → Int32) {s : Nat} (hs : s < 2) : f_Mo_countOf men (nI (6 + 8 * s)) = 1 ↔ z_oneK men s = true := by
  have := z_countOf_4 men (nI (6 + 8 * s)) 64 0 0 rfl
  rw [Nat.zero_add, show nI 0 = 0 from rfl] at this
  rw [f_Mo_countOf, this, z_oneK, decide_eq_true_eq]
  have l := z_cF_le (fun q => decide (men q = nI (6 + 8 * s))) 64 0
  exact z_nI_inj (b := 1) (by omega) (by omega)
set_option maxRecDepth 100000 in
theorem z_pawn_4 (men : Nat → Int32) : ∀ n f (v : Bool), f + n = 8 → f_Mo_hasPawnAtEnd_4 men (n + 1) (if v then 1 else 0) (nI f) = if v || (List.range' f n).any (fun f => decide (men f &&& 7 = 1) || decide (men (56 + f) &&& 7 = 1)) then 1 else 0 := by
  intro n
  induction n with
  | zero =>
    intro f v h
    rw [f_Mo_hasPawnAtEnd_4]; dsimp only
    rw [if_pos (by rw [show f = 8 by omega]; decide)]
    cases v <;> rfl
  | succ n ih =>
    intro f v h
    rw [f_Mo_hasPawnAtEnd_4]; dsimp only
    have n8 : ¬ (8 : Int32) ≤ nI f := (by decide : ∀ f, f < 8 → ¬ (8 : Int32) ≤ nI f) f (by omega)
    have e56 : ((56 : Int32) + nI f).toNatClampNeg = 56 + f := by rw [show (56 : Int32) = nI 56 from rfl, z_nI_add, z_nI_clamp (by omega)]
    rw [if_neg n8, z_nI_clamp (by omega), e56, show nI f + 1 = nI (f + 1) from z_nI_add f 1, List.range'_succ, List.any_cons, show f_Mo_kind (men f) = men f &&& 7 from rfl, show f_Mo_kind (men (56 + f)) = men (56 + f) &&& 7 from rfl]
    have i1 := ih (f + 1) true (by omega)
    have i0 := ih (f + 1) false (by omega)
    simp only [if_true, Bool.false_eq_true, if_false, Bool.true_or, Bool.false_or] at i1 i0
    cases v
    · rw [if_pos (by decide : (if false = true then (1 : Int32) else 0) = 0)]
      by_cases c1 : men f &&& 7 = 1
      · rw [if_pos c1, i1]; simp [c1]
      · rw [if_neg c1]
        by_cases c2 : men (56 + f) &&& 7 = 1
        · rw [if_pos c2, i1]; simp [c2]
        · rw [if_neg c2, i0, decide_eq_false c1, decide_eq_false c2]; rfl
    · rw [if_neg (by decide : ¬ (if true = true then (1 : Int32) else 0) = 0), i1]; rfl
set_option maxRecDepth 100000 in
theorem z_pawn_ref (men : Nat → Int32) : f_Mo_hasPawnAtEnd men = if z_pawnE men then 1 else 0 := by
  have := z_pawn_4 men 8 0 false rfl
  simp only [Bool.false_eq_true, if_false, Bool.false_or, show nI 0 = 0 from rfl] at this
  rw [f_Mo_hasPawnAtEnd, this, z_pawnE, List.range_eq_range']
set_option maxRecDepth 100000 in
theorem z_rt_bit : ∀ r, r < 16 → ∀ k, k < 4 → ((nI r >>> (nI k &&& 31)) &&& 1 = 1 ↔ r.testBit k = true) := by decide +kernel
set_option maxRecDepth 100000 in
theorem z_rw_step (P : z_Pos) (hr : P.rights < 16) {k n : Nat} (hk : k < 4) (v : Bool) : f_Mo_isRightWrong_4 P.men (nI P.rights) (n + 1) (if v then 1 else 0) (nI k) = f_Mo_isRightWrong_4 P.men (nI P.rights) n (if v || !z_rtOk P (k / 2) (k % 2) then 1 else 0) (nI (k + 1)) := by
  have h10 : ¬ (1 : Int32) = 0 := by decide
  have k2 : nI k / 2 = nI (k / 2) := z_nI_div (b := 2) (by omega) (by decide) (by decide)
  have km : nI k - nI k / 2 * 2 = nI (k % 2) := z_nI_mod (b := 2) (by omega) (by decide) (by decide)
  have rb := z_rt_bit P.rights hr k hk
  have e0 : nI (k % 2) = 0 ↔ k % 2 = 0 := z_nI_inj (b := 0) (by omega) (by omega)
  have key : ∀ c : Nat, c = (if k % 2 = 0 then 7 else 0) → f_Mo_isRightWrong_37 (f_Mo_isRightWrong_4 P.men (nI P.rights) n) P.men (nI P.rights) (if v then 1 else 0) (nI k) (nI c) = f_Mo_isRightWrong_4 P.men (nI P.rights) n (if v || !z_rtOk P (k / 2) (k % 2) then 1 else 0) (nI (k + 1)) := by
    intro c hc
    have x1 : ((56 : Int32) * nI (k / 2) + 4).toNatClampNeg = z_home (k / 2) := by
      rw [show (56 : Int32) = nI 56 from rfl, z_nI_mul, show (4 : Int32) = nI 4 from rfl, z_nI_add, z_nI_clamp (by omega)]; rfl
    have c8 : c < 8 := by rw [hc]; split <;> omega
    have x2 : ((56 : Int32) * nI (k / 2) + nI c).toNatClampNeg = 56 * (k / 2) + c := by
      rw [show (56 : Int32) = nI 56 from rfl, z_nI_mul, z_nI_add, z_nI_clamp (by omega)]
    have x3 : (6 : Int32) + 8 * nI (k / 2) = nI (6 + 8 * (k / 2)) := by rw [show (8 : Int32) = nI 8 from rfl, z_nI_mul, show (6 : Int32) = nI 6 from rfl, z_nI_add]
    have x4 : (4 : Int32) + 8 * nI (k / 2) = nI (4 + 8 * (k / 2)) := by rw [show (8 : Int32) = nI 8 from rfl, z_nI_mul, show (4 : Int32) = nI 4 from rfl, z_nI_add]
    have kk : 2 * (k / 2) + k % 2 = k := by omega
    have f78 : ∀ t : Bool, f_Mo_isRightWrong_78 (f_Mo_isRightWrong_4 P.men (nI P.rights) n) P.men (nI P.rights) (if v then 1 else 0) (nI k) (nI c) (if t then 1 else 0) = f_Mo_isRightWrong_4 P.men (nI P.rights) n (if v || (P.rights.testBit k && !t) then 1 else 0) (nI (k + 1)) := by
      intro t
      rw [f_Mo_isRightWrong_78, show nI k + 1 = nI (k + 1) from z_nI_add k 1]
      cases v
      · rw [if_pos (by decide : (if false = true then (1 : Int32) else 0) = 0)]
        cases hb : P.rights.testBit k
        · rw [if_neg (fun g => by rw [rb.mp g] at hb; cases hb)]; simp
        · rw [if_pos (rb.mpr hb)]
          cases t <;> simp
      · rw [if_neg (by decide : ¬ (if true = true then (1 : Int32) else 0) = 0)]; simp
    have ok : (!z_rtOk P (k / 2) (k % 2)) = (P.rights.testBit k && !(decide (P.men (z_home (k / 2)) = nI (6 + 8 * (k / 2))) && decide (P.men (56 * (k / 2) + c) = nI (4 + 8 * (k / 2))))) := by
      rw [z_rtOk, kk, hc]
      cases P.rights.testBit k <;> simp
    have t1 := f78 true
    have t0 := f78 false
    simp only [if_true, Bool.false_eq_true, if_false] at t1 t0
    rw [f_Mo_isRightWrong_37, k2, x1, x2, x3, x4, f_Mo_isRightWrong_77, ok]
    by_cases c1 : P.men (z_home (k / 2)) = nI (6 + 8 * (k / 2))
    · rw [if_pos c1]
      by_cases c2 : P.men (56 * (k / 2) + c) = nI (4 + 8 * (k / 2))
      · rw [if_pos c2, t1]; simp [c1, c2]
      · rw [if_neg c2, t0]; simp [c2]
    · rw [if_neg c1, t0]; simp [c1]
  rw [f_Mo_isRightWrong_4]; dsimp only
  rw [if_neg ((by decide : ∀ k, k < 4 → ¬ (4 : Int32) ≤ nI k) k hk), km]
  by_cases c : k % 2 = 0
  · rw [if_pos (e0.mpr c)]; exact key 7 (by rw [if_pos c])
  · rw [if_neg (fun g => c (e0.mp g))]; exact key 0 (by rw [if_neg c])
set_option maxRecDepth 100000 in
theorem z_rights_ref (P : z_Pos) (hr : P.rights < 16) : f_Mo_isRightWrong P.men (nI P.rights) = if z_rtOk P 0 0 && z_rtOk P 0 1 && z_rtOk P 1 0 && z_rtOk P 1 1 then 0 else 1 := by
  have a := z_rw_step P hr (k := 0) (n := 4) (by decide) false
  have b := z_rw_step P hr (k := 1) (n := 3) (by decide) (false || !z_rtOk P 0 0)
  have c := z_rw_step P hr (k := 2) (n := 2) (by decide) (false || !z_rtOk P 0 0 || !z_rtOk P 0 1)
  have d := z_rw_step P hr (k := 3) (n := 1) (by decide) (false || !z_rtOk P 0 0 || !z_rtOk P 0 1 || !z_rtOk P 1 0)
  rw [f_Mo_isRightWrong]
  have a' : f_Mo_isRightWrong_4 P.men (nI P.rights) 5 0 0 = _ := a
  rw [a', show f_Mo_isRightWrong_4 P.men (nI P.rights) 4 _ (nI (0 + 1)) = _ from b, show f_Mo_isRightWrong_4 P.men (nI P.rights) 3 _ (nI (1 + 1)) = _ from c, show f_Mo_isRightWrong_4 P.men (nI P.rights) 2 _ (nI (2 + 1)) = _ from d, f_Mo_isRightWrong_4]
  dsimp only
  rw [if_pos (by decide), show (3 / 2 : Nat) = 1 from rfl, show (3 % 2 : Nat) = 1 from rfl]
  cases z_rtOk P 0 0 <;> cases z_rtOk P 0 1 <;> cases z_rtOk P 1 0 <;> cases z_rtOk P 1 1 <;> rfl
set_option maxRecDepth 100000 in
theorem z_att_pn {men : Nat → Int32} {s q p : Nat} (hs : s < 2) (hq : q < 64) (hp : p < 64) (hm : men q = nI (1 + 8 * s)) : ((f_Mo_attacked men (nI q)) &&& (f_Mo_bit (nI p))) = 0 ↔ z_pnHit (decide (s = 0)) q p = false := by
  have h1 : z_tb (f_Mo_attacked men (nI q)) p = z_pnHit (decide (s = 0)) q p := by
    rw [z_attacked_hits _ hq hp, hm, z_hits]
    have hs2 : s = 0 ∨ s = 1 := by omega
    rcases hs2 with rfl | rfl
    · rw [if_pos (by decide)]; rfl
    · rw [if_pos (by decide)]; rfl
  rw [z_bit_eq hp, z_eq0_iff, ← h1]
  constructor
  · intro g; have := g p hp; rw [z_tb_and, z_tb_bt hp hp] at this; simpa using this
  · intro g r hr
    rw [z_tb_and, z_tb_bt hp hr]
    by_cases c : r = p
    · rw [c, g]; rfl
    · simp [c]
set_option maxRecDepth 100000 in
theorem z_ip_105 (P : z_Pos) (hs : P.side < 2) (hp : P.passed < 64) (k40 k59 : Int32) : ∀ n q (v : Bool), q + n = 64 →
    f_Mo_isPassedWrong_105 P.men (nI P.side) (nI P.passed) k40 k59 (n + 1) (if v then 1 else 0) (nI q) = if v || (List.range' q n).any (fun q => decide (P.men q = nI (1 + 8 * P.side)) && z_pnHit (decide (P.side = 0)) q P.passed) then 0 else 1 := by
  have e1 : (1 : Int32) + 8 * nI P.side = nI (1 + 8 * P.side) := by rw [show (8 : Int32) = nI 8 from rfl, z_nI_mul, show (1 : Int32) = nI 1 from rfl, z_nI_add]
  intro n
  induction n with
  | zero =>
    intro q v h
    rw [f_Mo_isPassedWrong_105]; dsimp only
    rw [if_pos (by rw [show q = 64 by omega]; decide)]
    cases v <;> rfl
  | succ n ih =>
    intro q v h
    have hq : q < 64 := by omega
    have i1 := ih (q + 1) true (by omega)
    have i0 := ih (q + 1) false (by omega)
    simp only [if_true, Bool.false_eq_true, if_false, Bool.true_or, Bool.false_or] at i1 i0
    rw [f_Mo_isPassedWrong_105]; dsimp only
    rw [if_neg (z_nI_lt64 q hq), z_nI_clamp (by omega), e1, z_nI_add1 q hq, List.range'_succ, List.any_cons]
    cases v
    · rw [if_pos (by decide : (if false = true then (1 : Int32) else 0) = 0)]
      by_cases c1 : P.men q = nI (1 + 8 * P.side)
      · have ap := z_att_pn hs hq hp c1
        rw [if_pos c1]
        cases c2 : z_pnHit (decide (P.side = 0)) q P.passed
        · rw [if_pos (ap.mpr c2), i0, Bool.and_false, Bool.false_or, Bool.false_or]
        · rw [if_neg (fun g => by rw [ap.mp g] at c2; cases c2), i1, decide_eq_true c1]; rfl
      · rw [if_neg c1, i0, decide_eq_false c1]; rfl
    · rw [if_neg (by decide : ¬ (if true = true then (1 : Int32) else 0) = 0), i1]; rfl
set_option maxRecDepth 100000 in
theorem z_passed_ref (P : z_Pos) (hs : P.side < 2) (hp : P.passed ≤ 64) : f_Mo_isPassedWrong P.men (nI P.side) (z_pI P.passed) = if z_psOk P then 0 else 1 := by
  have hs2 : P.side = 0 ∨ P.side = 1 := by omega
  by_cases h64 : P.passed < 64
  · have pe : z_pI P.passed = nI P.passed := by rw [z_pI, if_pos h64]
    have n64 : ¬ 64 ≤ P.passed := by omega
    have lp := z_ip_105 P hs h64
    have e1 : (1 : Int32) + 8 * (1 - nI P.side) = nI (1 + 8 * (1 - P.side)) := by rw [z_side_flip hs, show (8 : Int32) = nI 8 from rfl, z_nI_mul, show (1 : Int32) = nI 1 from rfl, z_nI_add]
    have d8 : nI P.passed / 8 = nI (P.passed / 8) := z_nI_div (b := 8) (by omega) (by decide) (by decide)
    have l65 : ∀ k40 k59, f_Mo_isPassedWrong_105 P.men (nI P.side) (nI P.passed) k40 k59 65 0 0 = if (List.range 64).any (fun q => decide (P.men q = nI (1 + 8 * P.side)) && z_pnHit (decide (P.side = 0)) q P.passed) then 0 else 1 := by
      intro k40 k59
      have := lp k40 k59 64 0 false rfl
      simp only [Bool.false_eq_true, if_false, Bool.false_or, show nI 0 = 0 from rfl] at this
      rw [this, List.range_eq_range']
    have f59 : ∀ (k40 k59 : Int32) (a b : Nat), P.passed / 8 = (if P.side = 0 then 5 else 2) → (nI P.passed - k59).toNatClampNeg = a → (nI P.passed + k59).toNatClampNeg = b → a = (if P.side = 0 then P.passed - 8 else P.passed + 8) → b = (if P.side = 0 then P.passed + 8 else P.passed - 8) → P.men P.passed = 0 →
        f_Mo_isPassedWrong_59 P.men (nI P.side) (nI P.passed) k40 k59 = if z_psOk P then 0 else 1 := by
      intro k40 k59 a b hr ha hb ha' hb' hm
      rw [f_Mo_isPassedWrong_59, ha, hb, e1, l65, z_psOk, ← ha', ← hb', decide_eq_false n64, decide_eq_true hr]
      simp only [z_fre, hm, decide_true, Bool.true_and, Bool.false_or]
      by_cases c1 : P.men a = nI (1 + 8 * (1 - P.side))
      · rw [if_pos c1, decide_eq_true c1]
        by_cases c2 : P.men b = 0
        · rw [if_pos c2, decide_eq_true c2]; rfl
        · rw [if_neg c2, decide_eq_false c2]; rfl
      · rw [if_neg c1, decide_eq_false c1]; rfl
    rw [f_Mo_isPassedWrong, pe, if_pos (by rw [show (0 : Int32) = nI 0 from rfl, z_nI_le (by omega) (by omega)]; omega), z_nI_clamp (by omega)]
    by_cases c0 : P.men P.passed = 0
    · rw [if_pos c0]
      rcases hs2 with h | h
      · rw [if_pos (by rw [h]; rfl), f_Mo_isPassedWrong_40, d8]
        have e5 : nI (P.passed / 8) = 5 ↔ P.passed / 8 = 5 := z_nI_inj (b := 5) (by omega) (by omega)
        by_cases c1 : P.passed / 8 = 5
        · rw [if_pos (e5.mpr c1), if_pos (by rw [h]; rfl)]
          exact f59 5 8 (P.passed - 8) (P.passed + 8) (by rw [h]; exact c1) (by rw [show (8 : Int32) = nI 8 from rfl, z_nI_sub (by omega) (by omega), z_nI_clamp (by omega)]) (by rw [show (8 : Int32) = nI 8 from rfl, z_nI_add, z_nI_clamp (by omega)]) (by rw [h]; rfl) (by rw [h]; rfl) c0
        · rw [if_neg (fun g => c1 (e5.mp g)), z_psOk, decide_eq_false n64]
          have : ¬ (P.passed / 8 = if P.side = 0 then 5 else 2) := by rw [h]; exact c1
          rw [decide_eq_false this]; simp
      · rw [if_neg (by rw [h]; decide), f_Mo_isPassedWrong_40, d8]
        have e2 : nI (P.passed / 8) = 2 ↔ P.passed / 8 = 2 := z_nI_inj (b := 2) (by omega) (by omega)
        by_cases c1 : P.passed / 8 = 2
        · rw [if_pos (e2.mpr c1), if_neg (by rw [h]; decide)]
          have s8 : ∀ t, t < 64 → 8 ≤ t → (nI t - (-8)).toNatClampNeg = t + 8 ∧ (nI t + (-8)).toNatClampNeg = t - 8 := by decide +kernel
          obtain ⟨u1, u2⟩ := s8 P.passed h64 (by omega)
          exact f59 2 (-8) (P.passed + 8) (P.passed - 8) (by rw [h]; exact c1) u1 u2 (by rw [h]; rfl) (by rw [h]; rfl) c0
        · rw [if_neg (fun g => c1 (e2.mp g)), z_psOk, decide_eq_false n64]
          have : ¬ (P.passed / 8 = if P.side = 0 then 5 else 2) := by rw [h]; exact c1
          rw [decide_eq_false this]; simp
    · rw [if_neg c0, z_psOk, decide_eq_false n64]
      simp [z_fre, c0]
  · have pe : z_pI P.passed = -1 := by rw [z_pI, if_neg h64]
    rw [f_Mo_isPassedWrong, pe, if_neg (by decide), z_psOk, decide_eq_true (by omega : 64 ≤ P.passed)]; rfl
abbrev z_TXP (typed : Int32) (text : Nat → Int32) : Prop := ∃ n sg, n ≤ 100 ∧ typed = nI n ∧ z_SgOk typed text sg ∧ ∀ p, n ≤ p → sg p = 0
set_option maxRecDepth 100000 in
theorem z_tx_ty {typed : Int32} {text : Nat → Int32} (h : z_TXP typed text) : 0 ≤ typed.toInt ∧ typed.toInt ≤ 100 := by
  obtain ⟨n, sg, h1, rfl, -⟩ := h
  rw [z_nI_toInt (by omega)]; omega
set_option maxRecDepth 100000 in
theorem z_rm_at {typed : Int32} {text men : Nat → Int32} (h : z_TXP typed text) (hc : ¬ (f_Mo_readMen typed text men).1 < 0) : 0 ≤ (f_Mo_readMen typed text men).1.toInt ∧ (f_Mo_readMen typed text men).1.toInt ≤ 71 := by
  obtain ⟨n, sg, h1, -, h3, -⟩ := h
  obtain ⟨W', -, w⟩ := z_readMen_eq h3 men
  cases hm : z_mnS sg 8 0 (fun _ => 0) with
  | none => rw [hm] at w; dsimp only at w; rw [w] at hc; exact absurd (by decide : (-1 : Int32) < 0) hc
  | some q =>
    rw [hm] at w
    dsimp only at w
    obtain ⟨a, b, c⟩ := w
    rw [c] at hc ⊢
    dsimp only at hc ⊢
    by_cases q0 : q.1 = 0
    · rw [q0] at hc; exact absurd (by decide) hc
    · rw [show (1 : Int32) = nI 1 from rfl, z_nI_sub (by omega) (by omega), z_nI_toInt (by omega)]; omega
set_option maxRecDepth 100000 in
theorem z_rr_ps {typed : Int32} {text : Nat → Int32} {a b c d e at9 : Int32} (h : z_TXP typed text) (hat : 0 ≤ at9.toInt ∧ at9.toInt ≤ 71) (hc : ¬ (f_Mo_readRest typed text a b c d e at9).1 = 0) : -1 ≤ (f_Mo_readRest typed text a b c d e at9).2.2.2.1.toInt ∧ (f_Mo_readRest typed text a b c d e at9).2.2.2.1.toInt < 64 := by
  obtain ⟨n, sg, h1, rfl, h3, -⟩ := h
  obtain ⟨p, hp1, hp, rfl⟩ : ∃ p : Nat, 1 ≤ p ∧ p ≤ 72 ∧ at9 = nI p - 1 := by
    refine ⟨at9.toInt.toNat + 1, by omega, by omega, ?_⟩
    rw [show (1 : Int32) = nI 1 from rfl, z_nI_sub (by omega) (by omega)]
    have := z_of_nonneg hat.1
    rw [Nat.add_sub_cancel]; exact this
  have R := z_readRest_eq h1 h3 (a := a) (b := b) (c := c) (d := d) (e := e) hp1 hp
  cases hm : z_restS sg n p with
  | none => rw [hm] at R; exact absurd R hc
  | some x =>
    rw [hm] at R
    obtain ⟨-, -, r3, r4⟩ := R
    rw [r4]
    dsimp only
    unfold z_pI
    split
    · rw [z_nI_toInt (by omega)]; omega
    · decide

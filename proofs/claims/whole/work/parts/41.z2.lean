def z_pnHit (w : Bool) (s t : Nat) : Bool := decide (t < 64) && (if w then decide (t = z_nx 4 s) || decide (t = z_nx 5 s) else decide (t = z_nx 6 s) || decide (t = z_nx 7 s))
def z_kn2 (a b c d : Nat) : Bool := (decide (a = c + 1) || decide (c = a + 1)) && (decide (b = d + 2) || decide (d = b + 2))
def z_knHit (s t : Nat) : Bool := z_kn2 (s % 8) (s / 8) (t % 8) (t / 8) || z_kn2 (s / 8) (s % 8) (t / 8) (t % 8)
def z_kgHit (s t : Nat) : Bool := decide (t < 64) && (decide (t = z_nx 0 s) || decide (t = z_nx 1 s) || decide (t = z_nx 2 s) || decide (t = z_nx 3 s) || decide (t = z_nx 4 s) || decide (t = z_nx 5 s) || decide (t = z_nx 6 s) || decide (t = z_nx 7 s))
def z_lnR (e : Nat → Bool) (s t : Nat) : Bool := z_ry e 0 s t || z_ry e 1 s t || z_ry e 2 s t || z_ry e 3 s t
def z_lnB (e : Nat → Bool) (s t : Nat) : Bool := z_ry e 4 s t || z_ry e 5 s t || z_ry e 6 s t || z_ry e 7 s t
def z_hits (m : Int32) (e : Nat → Bool) (s t : Nat) : Bool :=
  if m &&& 7 = 1 then z_pnHit (decide (m < 8)) s t
  else if m &&& 7 = 2 then z_knHit s t
  else if m &&& 7 = 6 then z_kgHit s t
  else if m &&& 7 = 4 then z_lnR e s t
  else if m &&& 7 = 3 then z_lnB e s t
  else if m &&& 7 = 5 then z_lnR e s t || z_lnB e s t
  else false
set_option maxRecDepth 100000 in
theorem z_att_4 (men : Nat → Int32) (s k0 : Int32) (h : f_Mo_kind (men s.toNatClampNeg) = 4) : f_Mo_attacked_59 men s k0 6 0 (-2) =
   0 ||| f_Mo_walk men s (-1) 0 ||| f_Mo_walk men s 0 (-1) ||| f_Mo_walk men s 0 1 ||| f_Mo_walk men s 1 0 := by
  simp [f_Mo_attacked_59, f_Mo_attacked_69, f_Mo_attacked_99, f_Mo_attacked_117, f_Mo_attacked_133, f_Mo_attacked_149, f_Mo_attacked_165, h]
set_option maxRecDepth 100000 in
theorem z_att_3 (men : Nat → Int32) (s k0 : Int32) (h : f_Mo_kind (men s.toNatClampNeg) = 3) : f_Mo_attacked_59 men s k0 6 0 (-2) =
   0 ||| f_Mo_walk men s (-1) (-1) ||| f_Mo_walk men s (-1) 1 ||| f_Mo_walk men s 1 (-1) ||| f_Mo_walk men s 1 1 := by
  simp [f_Mo_attacked_59, f_Mo_attacked_69, f_Mo_attacked_99, f_Mo_attacked_117, f_Mo_attacked_133, f_Mo_attacked_149, f_Mo_attacked_165, h]
set_option maxRecDepth 100000 in
theorem z_att_5 (men : Nat → Int32) (s k0 : Int32) (h : f_Mo_kind (men s.toNatClampNeg) = 5) : f_Mo_attacked_59 men s k0 6 0 (-2) =
   0 ||| f_Mo_walk men s (-1) (-1) ||| f_Mo_walk men s (-1) 0 ||| f_Mo_walk men s (-1) 1 ||| f_Mo_walk men s 0 (-1) ||| f_Mo_walk men s 0 1 ||| f_Mo_walk men s 1 (-1) ||| f_Mo_walk men s 1 0 ||| f_Mo_walk men s 1 1 := by
  simp [f_Mo_attacked_59, f_Mo_attacked_69, f_Mo_attacked_99, f_Mo_attacked_117, f_Mo_attacked_133, f_Mo_attacked_149, f_Mo_attacked_165, h]
set_option maxRecDepth 100000 in
theorem z_att_6 (men : Nat → Int32) (s k0 : Int32) (h : f_Mo_kind (men s.toNatClampNeg) = 6) : f_Mo_attacked_59 men s k0 6 0 (-2) =
   0 ||| f_Mo_bit (f_Mo_step s (-1) (-1)) ||| f_Mo_bit (f_Mo_step s (-1) 0) ||| f_Mo_bit (f_Mo_step s (-1) 1) ||| f_Mo_bit (f_Mo_step s 0 (-1)) ||| f_Mo_bit (f_Mo_step s 0 1) ||| f_Mo_bit (f_Mo_step s 1 (-1)) ||| f_Mo_bit (f_Mo_step s 1 0) ||| f_Mo_bit (f_Mo_step s 1 1) := by
  simp [f_Mo_attacked_59, f_Mo_attacked_69, f_Mo_attacked_99, f_Mo_attacked_117, f_Mo_attacked_133, f_Mo_attacked_149, f_Mo_attacked_165, h]
set_option maxRecDepth 100000 in
theorem z_att_2 (men : Nat → Int32) (s k0 : Int32) (h : f_Mo_kind (men s.toNatClampNeg) = 2) : f_Mo_attacked_59 men s k0 6 0 (-2) =
   0 ||| f_Mo_bit (f_Mo_step s (-2) (-1)) ||| f_Mo_bit (f_Mo_step s (-2) 1) ||| f_Mo_bit (f_Mo_step s (-1) (-2)) ||| f_Mo_bit (f_Mo_step s (-1) 2) ||| f_Mo_bit (f_Mo_step s 1 (-2)) ||| f_Mo_bit (f_Mo_step s 1 2) ||| f_Mo_bit (f_Mo_step s 2 (-1)) ||| f_Mo_bit (f_Mo_step s 2 1) := by
  simp [f_Mo_attacked_59, f_Mo_attacked_69, f_Mo_attacked_99, f_Mo_attacked_117, f_Mo_attacked_133, f_Mo_attacked_149, f_Mo_attacked_165, h]
set_option maxRecDepth 100000 in
theorem z_att_o (men : Nat → Int32) (s k0 : Int32) (h2 : ¬ f_Mo_kind (men s.toNatClampNeg) = 2) (h3 : ¬ f_Mo_kind (men s.toNatClampNeg) = 3) (h4 : ¬ f_Mo_kind (men s.toNatClampNeg) = 4) (h5 : ¬ f_Mo_kind (men s.toNatClampNeg) = 5) (h6 : ¬ f_Mo_kind (men s.toNatClampNeg) = 6) :
   f_Mo_attacked_59 men s k0 6 0 (-2) = 0 := by
  simp [f_Mo_attacked_59, f_Mo_attacked_69, f_Mo_attacked_99, f_Mo_attacked_117, f_Mo_attacked_133, f_Mo_attacked_149, f_Mo_attacked_165, h2, h3, h4, h5, h6]
set_option maxRecDepth 100000 in
theorem z_all2 {P : Nat → Nat → Bool} (h : ((List.range 64).all (fun q => (List.range 64).all (fun t => P q t))) = true) {q t : Nat} (hq : q < 64) (ht : t < 64) : P q t = true :=
  List.all_eq_true.mp (List.all_eq_true.mp h q (List.mem_range.mpr hq)) t (List.mem_range.mpr ht)
set_option maxRecDepth 100000 in
theorem z_kg_ref {q t : Nat} (hq : q < 64) (ht : t < 64) : z_tb (0 ||| f_Mo_bit (f_Mo_step (nI q) (-1) (-1)) ||| f_Mo_bit (f_Mo_step (nI q) (-1) 0) ||| f_Mo_bit (f_Mo_step (nI q) (-1) 1) ||| f_Mo_bit (f_Mo_step (nI q) 0 (-1)) ||| f_Mo_bit (f_Mo_step (nI q) 0 1) ||| f_Mo_bit (f_Mo_step (nI q) 1 (-1)) ||| f_Mo_bit (f_Mo_step (nI q) 1 0) ||| f_Mo_bit (f_Mo_step (nI q) 1 1)) t = z_kgHit q t := by
  have h : ∀ d, d < 8 → z_tb (f_Mo_bit (f_Mo_step (nI q) (z_dF d) (z_dR d))) t = (decide (t < 64) && decide (t = z_nx d q)) := by
    intro d hd
    rw [z_step_eq d hd q hq]
    by_cases hx : z_nx d q < 64
    · rw [if_pos hx, z_bit_eq hx, z_tb_bt hx ht]; simp [ht]
    · rw [if_neg hx, z_bit_neg, z_tb_zero]; simp; intro _; omega
  have h0 := h 0 (by decide); have h1 := h 1 (by decide); have h2 := h 2 (by decide); have h3 := h 3 (by decide)
  have h4 := h 4 (by decide); have h5 := h 5 (by decide); have h6 := h 6 (by decide); have h7 := h 7 (by decide)
  simp only [z_dF, z_dR] at h0 h1 h2 h3 h4 h5 h6 h7
  simp only [z_tb_or, z_tb_zero, h0, h1, h2, h3, h4, h5, h6, h7, z_kgHit, ht, decide_true, Bool.true_and, Bool.false_or]
  generalize decide (t = z_nx 0 q) = b0
  generalize decide (t = z_nx 1 q) = b1
  generalize decide (t = z_nx 2 q) = b2
  generalize decide (t = z_nx 3 q) = b3
  generalize decide (t = z_nx 4 q) = b4
  generalize decide (t = z_nx 5 q) = b5
  generalize decide (t = z_nx 6 q) = b6
  generalize decide (t = z_nx 7 q) = b7
  revert b0 b1 b2 b3 b4 b5 b6 b7; decide
set_option maxRecDepth 100000 in
theorem z_kn_ref0 : ((List.range 64).all (fun q => (List.range 64).all (fun t => z_tb (0 ||| f_Mo_bit (f_Mo_step (nI q) (-2) (-1)) ||| f_Mo_bit (f_Mo_step (nI q) (-2) 1) ||| f_Mo_bit (f_Mo_step (nI q) (-1) (-2)) ||| f_Mo_bit (f_Mo_step (nI q) (-1) 2) ||| f_Mo_bit (f_Mo_step (nI q) 1 (-2)) ||| f_Mo_bit (f_Mo_step (nI q) 1 2) ||| f_Mo_bit (f_Mo_step (nI q) 2 (-1)) ||| f_Mo_bit (f_Mo_step (nI q) 2 1)) t == z_knHit q t))) = true := by decide +kernel
set_option maxRecDepth 100000 in
theorem z_kn_cls0 : ((List.range 64).all (fun q => (List.range 64).all (fun t => z_tb (f_Ra_byKnight (z_bt q)) t == z_knHit t q))) = true := by decide +kernel
set_option maxRecDepth 100000 in
theorem z_kg_cls0 : ((List.range 64).all (fun q => (List.range 64).all (fun t => z_tb (f_Ra_byKing (z_bt q)) t == z_kgHit t q))) = true := by decide +kernel
set_option maxRecDepth 100000 in
theorem z_pn_cls0 : ((List.range 64).all (fun q => (List.range 64).all (fun t => (z_tb (f_Ra_byPawn (z_bt q) 1) t == z_pnHit true t q) && (z_tb (f_Ra_byPawn (z_bt q) 0) t == z_pnHit false t q)))) = true := by decide +kernel
set_option maxRecDepth 100000 in
theorem z_pn_ref0 : ((List.range 64).all (fun q => (List.range 64).all (fun t => (z_tb ((f_Mo_bit (f_Mo_step (nI q) (-1) 1)) ||| (f_Mo_bit (f_Mo_step (nI q) 1 1))) t == z_pnHit true q t) && (z_tb ((f_Mo_bit (f_Mo_step (nI q) (-1) (-1))) ||| (f_Mo_bit (f_Mo_step (nI q) 1 (-1)))) t == z_pnHit false q t)))) = true := by decide +kernel
set_option maxRecDepth 100000 in
theorem z_walk_d (men : Nat → Int32) {q t : Nat} (hq : q < 64) (ht : t < 64) :
    z_tb (f_Mo_walk men (nI q) 1 0) t = z_ry (fun t => decide (men t = 0)) 0 q t ∧ z_tb (f_Mo_walk men (nI q) (-1) 0) t = z_ry (fun t => decide (men t = 0)) 1 q t ∧
    z_tb (f_Mo_walk men (nI q) 0 1) t = z_ry (fun t => decide (men t = 0)) 2 q t ∧ z_tb (f_Mo_walk men (nI q) 0 (-1)) t = z_ry (fun t => decide (men t = 0)) 3 q t ∧
    z_tb (f_Mo_walk men (nI q) 1 1) t = z_ry (fun t => decide (men t = 0)) 4 q t ∧ z_tb (f_Mo_walk men (nI q) (-1) 1) t = z_ry (fun t => decide (men t = 0)) 5 q t ∧
    z_tb (f_Mo_walk men (nI q) 1 (-1)) t = z_ry (fun t => decide (men t = 0)) 6 q t ∧ z_tb (f_Mo_walk men (nI q) (-1) (-1)) t = z_ry (fun t => decide (men t = 0)) 7 q t :=
  ⟨z_walk_eq men (d := 0) (by decide) hq ht, z_walk_eq men (d := 1) (by decide) hq ht, z_walk_eq men (d := 2) (by decide) hq ht, z_walk_eq men (d := 3) (by decide) hq ht,
   z_walk_eq men (d := 4) (by decide) hq ht, z_walk_eq men (d := 5) (by decide) hq ht, z_walk_eq men (d := 6) (by decide) hq ht, z_walk_eq men (d := 7) (by decide) hq ht⟩
set_option maxRecDepth 100000 in
theorem z_attacked_hits (men : Nat → Int32) {q t : Nat} (hq : q < 64) (ht : t < 64) :
    z_tb (f_Mo_attacked men (nI q)) t = z_hits (men q) (fun t => decide (men t = 0)) q t := by
  have key : ∀ k0, (8 ≤ men q → k0 = -1) → (¬ 8 ≤ men q → k0 = 1) → z_tb (f_Mo_attacked_26 men (nI q) k0) t = z_hits (men q) (fun t => decide (men t = 0)) q t := by
    intro k0 hk1 hk2
    obtain ⟨w0, w1, w2, w3, w4, w5, w6, w7⟩ := z_walk_d men hq ht
    have hk : f_Mo_kind (men (nI q).toNatClampNeg) = men q &&& 7 := by rw [z_nI_nat q hq]; rfl
    rw [f_Mo_attacked_26, hk]
    unfold z_hits
    by_cases c1 : men q &&& 7 = 1
    · rw [if_pos c1, if_pos c1]
      have hp := z_all2 z_pn_ref0 hq ht
      rw [Bool.and_eq_true, beq_iff_eq, beq_iff_eq] at hp
      by_cases c8 : 8 ≤ men q
      · rw [hk1 c8, hp.2, decide_eq_false (Int32.not_lt.mpr c8)]
      · rw [hk2 c8, hp.1, decide_eq_true (Int32.not_le.mp c8)]
    · rw [if_neg c1, if_neg c1]
      by_cases c2 : men q &&& 7 = 2
      · rw [if_pos c2, z_att_2 men _ _ (hk.trans c2)]; exact beq_iff_eq.mp (z_all2 z_kn_ref0 hq ht)
      · rw [if_neg c2]
        by_cases c6 : men q &&& 7 = 6
        · rw [if_pos c6, z_att_6 men _ _ (hk.trans c6)]; exact z_kg_ref hq ht
        · rw [if_neg c6]
          by_cases c4 : men q &&& 7 = 4
          · rw [if_pos c4, z_att_4 men _ _ (hk.trans c4)]
            simp only [z_tb_or, z_tb_zero, w0, w1, w2, w3, z_lnR, Bool.false_or]
            ac_rfl
          · rw [if_neg c4]
            by_cases c3 : men q &&& 7 = 3
            · rw [if_pos c3, z_att_3 men _ _ (hk.trans c3)]
              simp only [z_tb_or, z_tb_zero, w4, w5, w6, w7, z_lnB, Bool.false_or]
              ac_rfl
            · rw [if_neg c3]
              by_cases c5 : men q &&& 7 = 5
              · rw [if_pos c5, z_att_5 men _ _ (hk.trans c5)]
                simp only [z_tb_or, z_tb_zero, w0, w1, w2, w3, w4, w5, w6, w7, z_lnR, z_lnB, Bool.false_or]
                ac_rfl
              · rw [if_neg c5, z_att_o men _ _ (by rwa [hk]) (by rwa [hk]) (by rwa [hk]) (by rwa [hk]) (by rwa [hk]), z_tb_zero]
  rw [f_Mo_attacked, z_nI_nat q hq]
  by_cases c8 : 8 ≤ men q
  · rw [if_pos c8]; exact key _ (fun _ => rfl) (fun h => absurd c8 h)
  · rw [if_neg c8]; exact key _ (fun h => absurd h c8) (fun _ => rfl)
set_option maxRecDepth 100000 in
theorem z_k7_0 : ((0 : Int32) &&& 7) = 0 := by decide
set_option maxRecDepth 100000 in
theorem z_k3_0 : ((0 : Int32) >>> 3) = 0 := by decide
set_option maxRecDepth 100000 in
theorem z_k7_1 : ((1 : Int32) &&& 7) = 1 := by decide
set_option maxRecDepth 100000 in
theorem z_k3_1 : ((1 : Int32) >>> 3) = 0 := by decide
set_option maxRecDepth 100000 in
theorem z_k7_2 : ((2 : Int32) &&& 7) = 2 := by decide
set_option maxRecDepth 100000 in
theorem z_k3_2 : ((2 : Int32) >>> 3) = 0 := by decide
set_option maxRecDepth 100000 in
theorem z_k7_3 : ((3 : Int32) &&& 7) = 3 := by decide
set_option maxRecDepth 100000 in
theorem z_k3_3 : ((3 : Int32) >>> 3) = 0 := by decide
set_option maxRecDepth 100000 in
theorem z_k7_4 : ((4 : Int32) &&& 7) = 4 := by decide
set_option maxRecDepth 100000 in
theorem z_k3_4 : ((4 : Int32) >>> 3) = 0 := by decide
set_option maxRecDepth 100000 in
theorem z_k7_5 : ((5 : Int32) &&& 7) = 5 := by decide
set_option maxRecDepth 100000 in
theorem z_k3_5 : ((5 : Int32) >>> 3) = 0 := by decide
set_option maxRecDepth 100000 in
theorem z_k7_6 : ((6 : Int32) &&& 7) = 6 := by decide
set_option maxRecDepth 100000 in
theorem z_k3_6 : ((6 : Int32) >>> 3) = 0 := by decide
set_option maxRecDepth 100000 in
theorem z_k7_9 : ((9 : Int32) &&& 7) = 1 := by decide
set_option maxRecDepth 100000 in
theorem z_k3_9 : ((9 : Int32) >>> 3) = 1 := by decide
set_option maxRecDepth 100000 in
theorem z_k7_10 : ((10 : Int32) &&& 7) = 2 := by decide
set_option maxRecDepth 100000 in
theorem z_k3_10 : ((10 : Int32) >>> 3) = 1 := by decide
set_option maxRecDepth 100000 in
theorem z_k7_11 : ((11 : Int32) &&& 7) = 3 := by decide
set_option maxRecDepth 100000 in
theorem z_k3_11 : ((11 : Int32) >>> 3) = 1 := by decide
set_option maxRecDepth 100000 in
theorem z_k7_12 : ((12 : Int32) &&& 7) = 4 := by decide
set_option maxRecDepth 100000 in
theorem z_k3_12 : ((12 : Int32) >>> 3) = 1 := by decide
set_option maxRecDepth 100000 in
theorem z_k7_13 : ((13 : Int32) &&& 7) = 5 := by decide
set_option maxRecDepth 100000 in
theorem z_k3_13 : ((13 : Int32) >>> 3) = 1 := by decide
set_option maxRecDepth 100000 in
theorem z_k7_14 : ((14 : Int32) &&& 7) = 6 := by decide
set_option maxRecDepth 100000 in
theorem z_k3_14 : ((14 : Int32) >>> 3) = 1 := by decide
def z_isOf (m s : Int32) : Bool := !decide (m = 0) && decide (m >>> 3 = s)
set_option maxRecDepth 100000 in
theorem z_isOf_ref (men : Nat → Int32) {q : Nat} (hq : q < 64) (s : Int32) : f_Mo_isOf men (nI q) s = if z_isOf (men q) s then 1 else 0 := by
  rw [f_Mo_isOf, z_nI_nat q hq, z_isOf]
  have : ((3 : Int32) &&& 31) = 3 := by decide
  rw [this]
  by_cases h : men q = 0
  · simp [h]
  · by_cases h2 : men q >>> 3 = s
    · simp [h, h2]
    · simp [h, h2]
set_option maxRecDepth 100000 in
theorem z_nI_lt64 : ∀ q, q < 64 → ¬ (64 : Int32) ≤ nI q := by decide
set_option maxRecDepth 100000 in
theorem z_nI_add1 : ∀ q, q < 64 → nI q + 1 = nI (q + 1) := by decide
set_option maxRecDepth 100000 in
theorem z_attackersOf_5 (men : Nat → Int32) (t : Nat) (ht : t < 64) (sd : Int32) : ∀ n q acc, q + n = 64 → ∀ s, s < 64 →
    z_tb (f_Mo_attackersOf_5 men (nI t) sd (n + 1) acc (nI q)) s = (z_tb acc s || (decide (q ≤ s) && z_isOf (men s) sd && z_hits (men s) (fun t => decide (men t = 0)) s t)) := by
  intro n
  induction n with
  | zero =>
    intro q acc h s hs
    rw [f_Mo_attackersOf_5]; dsimp only
    rw [show q = 64 by omega, if_pos (by decide)]
    have : ¬ 64 ≤ s := by omega
    simp [this]
  | succ n ih =>
    intro q acc h s hs
    have hq : q < 64 := by omega
    rw [f_Mo_attackersOf_5]; dsimp only
    rw [if_neg (z_nI_lt64 q hq), z_isOf_ref men hq, z_nI_add1 q hq, z_bit_eq ht, z_bit_eq hq]
    have e1 : ((f_Mo_attacked men (nI q)) &&& (z_bt t)) = 0 ↔ z_hits (men q) (fun t => decide (men t = 0)) q t = false := by
      rw [← z_attacked_hits men hq ht, z_eq0_iff]
      constructor
      · intro g; have := g t ht; rw [z_tb_and, z_tb_bt ht ht] at this; simpa using this
      · intro g r hr
        rw [z_tb_and, z_tb_bt ht hr]
        by_cases c : r = t
        · rw [c, g]; rfl
        · simp [c]
    by_cases c1 : z_isOf (men q) sd = true
    · rw [c1, if_pos rfl, if_neg (by decide)]
      by_cases c2 : z_hits (men q) (fun t => decide (men t = 0)) q t = true
      · rw [if_neg (by rw [e1, c2]; simp), ih _ _ (by omega) s hs, z_tb_or, z_tb_bt hq hs]
        by_cases c3 : s = q
        · subst c3; simp [c1, c2]
        · have : (q ≤ s) ↔ (q + 1 ≤ s) := by omega
          simp [c3, this]
      · rw [if_pos (e1.mpr (by simpa using c2)), ih _ _ (by omega) s hs]
        by_cases c3 : s = q
        · subst c3; simp [c2]
        · have : (q ≤ s) ↔ (q + 1 ≤ s) := by omega
          simp [this]
    · rw [if_neg c1, if_pos rfl, ih _ _ (by omega) s hs]
      by_cases c3 : s = q
      · subst c3; simp [c1]
      · have : (q ≤ s) ↔ (q + 1 ≤ s) := by omega
        simp [this]
set_option maxRecDepth 100000 in
theorem z_attackersOf_ref (men : Nat → Int32) {t : Nat} (ht : t < 64) (sd : Int32) {s : Nat} (hs : s < 64) :
    z_tb (f_Mo_attackersOf men (nI t) sd) s = (z_isOf (men s) sd && z_hits (men s) (fun t => decide (men t = 0)) s t) := by
  rw [f_Mo_attackersOf]
  have := z_attackersOf_5 men t ht sd 64 0 0 rfl s hs
  rw [z_tb_zero, show nI 0 = 0 from rfl] at this
  simpa using this
def z_vm (m : Int32) : Bool := decide (m = 0) || decide (m = 1) || decide (m = 2) || decide (m = 3) || decide (m = 4) || decide (m = 5) || decide (m = 6) || decide (m = 9) || decide (m = 10) || decide (m = 11) || decide (m = 12) || decide (m = 13) || decide (m = 14)
set_option maxRecDepth 100000 in
theorem z_vm_cases {m : Int32} (h : z_vm m = true) : m = 0 ∨ m = 1 ∨ m = 2 ∨ m = 3 ∨ m = 4 ∨ m = 5 ∨ m = 6 ∨ m = 9 ∨ m = 10 ∨ m = 11 ∨ m = 12 ∨ m = 13 ∨ m = 14 := by
  simpa [z_vm, or_assoc] using h
def z_Bd (men : Nat → Int32) (sets : Nat → Int64) : Prop :=
  (∀ q, q < 64 → z_vm (men q) = true) ∧ ∀ k, k < 16 → ∀ q, q < 64 → z_tb (sets k) q = decide (men q = nI k)
set_option maxRecDepth 100000 in
theorem z_setOf_eq {men : Nat → Int32} {sets : Nat → Int64} (B : z_Bd men sets) {k : Nat} {side : Nat} (hk : k < 8) (hs : side < 2) {q : Nat} (hq : q < 64) :
    z_tb (f_Bo_setOf sets (nI k) (nI side)) q = decide (men q = nI (k + 8 * side)) := by
  have e : ((nI k + (8 * nI side)) &&& 15).toNatClampNeg = k + 8 * side := (by decide : ∀ k, k < 8 → ∀ s, s < 2 → ((nI k + (8 * nI s)) &&& 15).toNatClampNeg = k + 8 * s) k hk side hs
  rw [f_Bo_setOf, e]
  exact B.2 _ (by omega) q hq
set_option maxRecDepth 100000 in
theorem z_attackersOf_74 (sets : Nat → Int64) (t : Nat) (ht : t < 64) (side : Int32) (e : Int64) (s : Nat) (hs : s < 64) (acc : Int64) :
    z_tb (f_Bo_attackersOf_74 sets (z_bt t) side e 9 acc 0) s = (z_tb acc s ||
      ((z_ry (z_tb e) 0 t s || z_ry (z_tb e) 1 t s || z_ry (z_tb e) 2 t s || z_ry (z_tb e) 3 t s) && (z_tb (f_Bo_setOf sets 5 side) s || z_tb (f_Bo_setOf sets 4 side) s)) ||
      ((z_ry (z_tb e) 4 t s || z_ry (z_tb e) 5 t s || z_ry (z_tb e) 6 t s || z_ry (z_tb e) 7 t s) && (z_tb (f_Bo_setOf sets 5 side) s || z_tb (f_Bo_setOf sets 3 side) s))) := by
  have a0 : z_tb (f_Ra_along 0 (z_bt t) e) s = z_ry (z_tb e) 0 t s := z_along_bt (d := 0) (by decide) ht e hs
  have a1 : z_tb (f_Ra_along 1 (z_bt t) e) s = z_ry (z_tb e) 1 t s := z_along_bt (d := 1) (by decide) ht e hs
  have a2 : z_tb (f_Ra_along 2 (z_bt t) e) s = z_ry (z_tb e) 2 t s := z_along_bt (d := 2) (by decide) ht e hs
  have a3 : z_tb (f_Ra_along 3 (z_bt t) e) s = z_ry (z_tb e) 3 t s := z_along_bt (d := 3) (by decide) ht e hs
  have a4 : z_tb (f_Ra_along 4 (z_bt t) e) s = z_ry (z_tb e) 4 t s := z_along_bt (d := 4) (by decide) ht e hs
  have a5 : z_tb (f_Ra_along 5 (z_bt t) e) s = z_ry (z_tb e) 5 t s := z_along_bt (d := 5) (by decide) ht e hs
  have a6 : z_tb (f_Ra_along 6 (z_bt t) e) s = z_ry (z_tb e) 6 t s := z_along_bt (d := 6) (by decide) ht e hs
  have a7 : z_tb (f_Ra_along 7 (z_bt t) e) s = z_ry (z_tb e) 7 t s := z_along_bt (d := 7) (by decide) ht e hs
  have u : f_Bo_attackersOf_74 sets (z_bt t) side e 9 acc 0 = acc ||| (f_Ra_along 0 (z_bt t) e &&& (f_Bo_setOf sets 5 side ||| f_Bo_setOf sets 4 side)) ||| (f_Ra_along 1 (z_bt t) e &&& (f_Bo_setOf sets 5 side ||| f_Bo_setOf sets 4 side)) ||| (f_Ra_along 2 (z_bt t) e &&& (f_Bo_setOf sets 5 side ||| f_Bo_setOf sets 4 side)) ||| (f_Ra_along 3 (z_bt t) e &&& (f_Bo_setOf sets 5 side ||| f_Bo_setOf sets 4 side)) ||| (f_Ra_along 4 (z_bt t) e &&& (f_Bo_setOf sets 5 side ||| f_Bo_setOf sets 3 side)) ||| (f_Ra_along 5 (z_bt t) e &&& (f_Bo_setOf sets 5 side ||| f_Bo_setOf sets 3 side)) ||| (f_Ra_along 6 (z_bt t) e &&& (f_Bo_setOf sets 5 side ||| f_Bo_setOf sets 3 side)) ||| (f_Ra_along 7 (z_bt t) e &&& (f_Bo_setOf sets 5 side ||| f_Bo_setOf sets 3 side)) := by
    simp [f_Bo_attackersOf_74, f_Bo_attackersOf_94]
  rw [u]
  simp only [z_tb_or, z_tb_and, a0, a1, a2, a3, a4, a5, a6, a7]
  generalize z_ry (z_tb e) 0 t s = b0
  generalize z_ry (z_tb e) 1 t s = b1
  generalize z_ry (z_tb e) 2 t s = b2
  generalize z_ry (z_tb e) 3 t s = b3
  generalize z_ry (z_tb e) 4 t s = b4
  generalize z_ry (z_tb e) 5 t s = b5
  generalize z_ry (z_tb e) 6 t s = b6
  generalize z_ry (z_tb e) 7 t s = b7
  generalize z_tb (f_Bo_setOf sets 5 side) s = c5
  generalize z_tb (f_Bo_setOf sets 4 side) s = c4
  generalize z_tb (f_Bo_setOf sets 3 side) s = c3
  generalize z_tb acc s = c
  clear u a0 a1 a2 a3 a4 a5 a6 a7
  cases c5 <;> cases c4 <;> cases c3 <;> simp [Bool.or_assoc]
set_option maxRecDepth 100000 in
theorem z_attackersOf_cls {men : Nat → Int32} {sets : Nat → Int64} (B : z_Bd men sets) {t : Nat} (ht : t < 64) {side : Nat} (hside : side < 2) (e : Int64) {s : Nat} (hs : s < 64) :
    z_tb (f_Bo_attackersOf sets (z_bt t) (nI side) e) s = (z_isOf (men s) (nI side) && z_hits (men s) (z_tb e) s t) := by
  have z1 : z_tb (f_Bo_setOf sets 1 (nI side)) s = decide (men s = nI (1 + 8 * side)) := z_setOf_eq B (k := 1) (by decide) hside hs
  have z2 : z_tb (f_Bo_setOf sets 2 (nI side)) s = decide (men s = nI (2 + 8 * side)) := z_setOf_eq B (k := 2) (by decide) hside hs
  have z3 : z_tb (f_Bo_setOf sets 3 (nI side)) s = decide (men s = nI (3 + 8 * side)) := z_setOf_eq B (k := 3) (by decide) hside hs
  have z4 : z_tb (f_Bo_setOf sets 4 (nI side)) s = decide (men s = nI (4 + 8 * side)) := z_setOf_eq B (k := 4) (by decide) hside hs
  have z5 : z_tb (f_Bo_setOf sets 5 (nI side)) s = decide (men s = nI (5 + 8 * side)) := z_setOf_eq B (k := 5) (by decide) hside hs
  have z6 : z_tb (f_Bo_setOf sets 6 (nI side)) s = decide (men s = nI (6 + 8 * side)) := z_setOf_eq B (k := 6) (by decide) hside hs
  have r0 := z_ry_comm (e := z_tb e) (d := 0) (by decide) ht hs
  have r1 := z_ry_comm (e := z_tb e) (d := 1) (by decide) ht hs
  have r2 := z_ry_comm (e := z_tb e) (d := 2) (by decide) ht hs
  have r3 := z_ry_comm (e := z_tb e) (d := 3) (by decide) ht hs
  have r4 := z_ry_comm (e := z_tb e) (d := 4) (by decide) ht hs
  have r5 := z_ry_comm (e := z_tb e) (d := 5) (by decide) ht hs
  have r6 := z_ry_comm (e := z_tb e) (d := 6) (by decide) ht hs
  have r7 := z_ry_comm (e := z_tb e) (d := 7) (by decide) ht hs
  simp only [z_op] at r0 r1 r2 r3 r4 r5 r6 r7
  have pn := z_all2 z_pn_cls0 ht hs
  rw [Bool.and_eq_true, beq_iff_eq, beq_iff_eq] at pn
  have kn := beq_iff_eq.mp (z_all2 z_kn_cls0 ht hs)
  have kg := beq_iff_eq.mp (z_all2 z_kg_cls0 ht hs)
  rw [f_Bo_attackersOf, z_attackersOf_74 sets t ht (nI side) e s hs]
  simp only [z_tb_or, z_tb_and, z1, z2, z3, z4, z5, z6, kn, kg, r0, r1, r2, r3, r4, r5, r6, r7]
  have hv := z_vm_cases (B.1 s hs)
  have hside2 : side = 0 ∨ side = 1 := by omega
  have q0 : z_tb (f_Ra_byPawn (z_bt t) (1 - nI 0)) s = z_pnHit true s t := pn.1
  have q1 : z_tb (f_Ra_byPawn (z_bt t) (1 - nI 1)) s = z_pnHit false s t := pn.2
  generalize men s = m at *
  rcases hside2 with rfl | rfl
  · rw [q0]
    rcases hv with rfl | rfl | rfl | rfl | rfl | rfl | rfl | rfl | rfl | rfl | rfl | rfl | rfl <;>
      simp [z_isOf, z_hits, nI, z_lnR, z_lnB, Bool.or_assoc, Bool.or_comm, Bool.or_left_comm, z_k7_0, z_k3_0, z_k7_1, z_k3_1, z_k7_2, z_k3_2, z_k7_3, z_k3_3, z_k7_4, z_k3_4, z_k7_5, z_k3_5, z_k7_6, z_k3_6, z_k7_9, z_k3_9, z_k7_10, z_k3_10, z_k7_11, z_k3_11, z_k7_12, z_k3_12, z_k7_13, z_k3_13, z_k7_14, z_k3_14]
  · rw [q1]
    rcases hv with rfl | rfl | rfl | rfl | rfl | rfl | rfl | rfl | rfl | rfl | rfl | rfl | rfl <;>
      simp [z_isOf, z_hits, nI, z_lnR, z_lnB, Bool.or_assoc, Bool.or_comm, Bool.or_left_comm, z_k7_0, z_k3_0, z_k7_1, z_k3_1, z_k7_2, z_k3_2, z_k7_3, z_k3_3, z_k7_4, z_k3_4, z_k7_5, z_k3_5, z_k7_6, z_k3_6, z_k7_9, z_k3_9, z_k7_10, z_k3_10, z_k7_11, z_k3_11, z_k7_12, z_k3_12, z_k7_13, z_k3_13, z_k7_14, z_k3_14]
set_option maxRecDepth 100000 in
theorem z_nI_toInt {n : Nat} (h : n < 2147483648) : (nI n).toInt = n := by
  rw [nI, Int32.toInt_ofNat', show Int32.size = 4294967296 from rfl]
  rw [Int.bmod_eq_of_le] <;> omega
set_option maxRecDepth 100000 in
theorem z_nI_inj {a b : Nat} (ha : a < 2147483648) (hb : b < 2147483648) : nI a = nI b ↔ a = b := by
  constructor
  · intro h
    have := congrArg Int32.toInt h
    rw [z_nI_toInt ha, z_nI_toInt hb] at this; omega
  · intro h; rw [h]
set_option maxRecDepth 100000 in
theorem z_nI_add (a b : Nat) : nI a + nI b = nI (a + b) := by simp [nI, Int32.ofNat_add]
set_option maxRecDepth 100000 in
theorem z_nI_mul (a b : Nat) : nI a * nI b = nI (a * b) := by simp [nI, Int32.ofNat_mul]
set_option maxRecDepth 100000 in
theorem z_nI_sub {a b : Nat} (h : b ≤ a) (ha : a < 2147483648) : nI a - nI b = nI (a - b) := by
  apply Int32.toInt_inj.mp
  rw [Int32.toInt_sub, z_nI_toInt ha, z_nI_toInt (by omega), z_nI_toInt (by omega)]
  rw [Int.bmod_eq_of_le] <;> omega
set_option maxRecDepth 100000 in
theorem z_nI_div {a b : Nat} (ha : a < 2147483648) (hb : b < 2147483648) (h0 : 0 < b) : nI a / nI b = nI (a / b) := by
  apply Int32.toInt_inj.mp
  have hd : a / b ≤ a := Nat.div_le_self a b
  rw [Int32.toInt_div, z_nI_toInt ha, z_nI_toInt hb, z_nI_toInt (by omega)]
  have : (a : Int).tdiv b = ((a / b : Nat) : Int) := by rw [Int.tdiv_eq_ediv_of_nonneg (by omega)]; rfl
  rw [this]
  clear this
  generalize a / b = c at *
  rw [Int.bmod_eq_of_le] <;> omega
set_option maxRecDepth 100000 in
theorem z_nI_mod {a b : Nat} (ha : a < 2147483648) (hb : b < 2147483648) (h0 : 0 < b) : nI a - nI a / nI b * nI b = nI (a % b) := by
  rw [z_nI_div ha hb h0, z_nI_mul, z_nI_sub (Nat.div_mul_le_self a b) ha]
  congr 1
  have := Nat.div_add_mod a b
  rw [Nat.mul_comm] at this; omega
set_option maxRecDepth 100000 in
theorem z_nI_bv (n : Nat) : (nI n).toBitVec = BitVec.ofNat 32 n := rfl
set_option maxRecDepth 100000 in
theorem z_nI_and {a b : Nat} : nI a &&& nI b = nI (a &&& b) := by
  apply Int32.toBitVec_inj.mp
  apply BitVec.eq_of_toNat_eq
  rw [Int32.toBitVec_and, BitVec.toNat_and, z_nI_bv, z_nI_bv, z_nI_bv, BitVec.toNat_ofNat, BitVec.toNat_ofNat, BitVec.toNat_ofNat, Nat.and_mod_two_pow]
set_option maxRecDepth 100000 in
theorem z_k31 : ∀ k, k < 32 → (nI k &&& 31).toBitVec.smod 32 = BitVec.ofNat 32 k := by decide +kernel
set_option maxRecDepth 100000 in
theorem z_k31' : ∀ k, k < 32 → (nI k).toBitVec.smod 32 = BitVec.ofNat 32 k := by decide +kernel
set_option maxRecDepth 100000 in
theorem z_nI_shr {a k : Nat} (ha : a < 2147483648) (hk : k < 32) : nI a >>> nI k = nI (a >>> k) := by
  apply Int32.toBitVec_inj.mp
  rw [Int32.toBitVec_shiftRight, z_k31' k hk, BitVec.sshiftRight_eq', z_nI_bv, z_nI_bv]
  have hm : (BitVec.ofNat 32 a).msb = false := by
    rw [BitVec.msb_eq_false_iff_two_mul_lt, BitVec.toNat_ofNat, Nat.mod_eq_of_lt (by omega)]; omega
  rw [BitVec.sshiftRight_eq_of_msb_false hm]
  apply BitVec.eq_of_toNat_eq
  have : a >>> k ≤ a := Nat.shiftRight_le a k
  rw [BitVec.toNat_ushiftRight, BitVec.toNat_ofNat, BitVec.toNat_ofNat, BitVec.toNat_ofNat, Nat.mod_eq_of_lt (by omega : a < 2 ^ 32), Nat.mod_eq_of_lt (by omega : k < 2 ^ 32), Nat.mod_eq_of_lt (by omega : a >>> k < 2 ^ 32)]
set_option maxRecDepth 100000 in
theorem z_nI_lt {a b : Nat} (ha : a < 2147483648) (hb : b < 2147483648) : nI a < nI b ↔ a < b := by
  rw [Int32.lt_iff_toInt_lt, z_nI_toInt ha, z_nI_toInt hb]; omega
set_option maxRecDepth 100000 in
theorem z_nI_le {a b : Nat} (ha : a < 2147483648) (hb : b < 2147483648) : nI a ≤ nI b ↔ a ≤ b := by
  rw [Int32.le_iff_toInt_le, z_nI_toInt ha, z_nI_toInt hb]; omega
set_option maxRecDepth 100000 in
theorem z_nI_clamp {a : Nat} (ha : a < 2147483648) : (nI a).toNatClampNeg = a := by
  rw [Int32.toNatClampNeg, z_nI_toInt ha]; rfl
set_option maxRecDepth 100000 in
theorem z_nI_m1 (a : Nat) (ha : a < 2147483648) : nI a ≠ -1 := by
  intro h
  have := congrArg Int32.toInt h
  rw [z_nI_toInt ha] at this
  have : (-1 : Int32).toInt = -1 := by decide
  omega
def z_mv (fr to pr : Nat) : Int32 := nI (fr + 64 * to + 4096 * pr)
set_option maxRecDepth 100000 in
theorem z_mv_fr1 {fr to pr : Nat} (hf : fr < 64) (ht : to < 64) (hp : pr < 8) : z_mv fr to pr - z_mv fr to pr / 64 * 64 = nI fr := by
  rw [z_mv, show (64 : Int32) = nI 64 from rfl, z_nI_mod (by omega) (by omega) (by omega)]; congr 1; omega
set_option maxRecDepth 100000 in
theorem z_mv_to1 {fr to pr : Nat} (hf : fr < 64) (ht : to < 64) (hp : pr < 8) : z_mv fr to pr / 64 - z_mv fr to pr / 64 / 64 * 64 = nI to := by
  rw [z_mv, show (64 : Int32) = nI 64 from rfl, z_nI_div (by omega) (by omega) (by omega), z_nI_mod (by omega) (by omega) (by omega)]; congr 1; omega
set_option maxRecDepth 100000 in
theorem z_mv_pr1 {fr to pr : Nat} (hf : fr < 64) (ht : to < 64) (hp : pr < 8) : z_mv fr to pr / 4096 = nI pr := by
  rw [z_mv, show (4096 : Int32) = nI 4096 from rfl, z_nI_div (by omega) (by omega) (by omega)]; congr 1; omega
set_option maxRecDepth 100000 in
theorem z_mv_fr2 {fr to pr : Nat} (hf : fr < 64) (ht : to < 64) (hp : pr < 8) : z_mv fr to pr &&& 63 = nI fr := by
  rw [z_mv, show (63 : Int32) = nI 63 from rfl, z_nI_and, show (63 : Nat) = 2 ^ 6 - 1 from rfl, Nat.and_two_pow_sub_one_eq_mod]; congr 1; omega
set_option maxRecDepth 100000 in
theorem z_mv_to2 {fr to pr : Nat} (hf : fr < 64) (ht : to < 64) (hp : pr < 8) : (z_mv fr to pr >>> ((6 : Int32) &&& 31)) &&& 63 = nI to := by
  rw [z_mv, show ((6 : Int32) &&& 31) = nI 6 from by decide, z_nI_shr (by omega) (by omega), show (63 : Int32) = nI 63 from rfl, z_nI_and, show (63 : Nat) = 2 ^ 6 - 1 from rfl, Nat.and_two_pow_sub_one_eq_mod, Nat.shiftRight_eq_div_pow]; congr 1; omega
set_option maxRecDepth 100000 in
theorem z_mv_pr2 {fr to pr : Nat} (hf : fr < 64) (ht : to < 64) (hp : pr < 8) : z_mv fr to pr >>> ((12 : Int32) &&& 31) = nI pr := by
  rw [z_mv, show ((12 : Int32) &&& 31) = nI 12 from by decide, z_nI_shr (by omega) (by omega), Nat.shiftRight_eq_div_pow]; congr 1; omega
set_option maxRecDepth 100000 in
theorem z_vm_15 {m : Int32} (h : z_vm m = true) : m &&& 15 = m ∧ ∃ k, k < 16 ∧ m = nI k := by
  rcases z_vm_cases h with rfl | rfl | rfl | rfl | rfl | rfl | rfl | rfl | rfl | rfl | rfl | rfl | rfl
  all_goals refine ⟨by decide, ?_⟩
  · exact ⟨0, by decide, rfl⟩
  · exact ⟨1, by decide, rfl⟩
  · exact ⟨2, by decide, rfl⟩
  · exact ⟨3, by decide, rfl⟩
  · exact ⟨4, by decide, rfl⟩
  · exact ⟨5, by decide, rfl⟩
  · exact ⟨6, by decide, rfl⟩
  · exact ⟨9, by decide, rfl⟩
  · exact ⟨10, by decide, rfl⟩
  · exact ⟨11, by decide, rfl⟩
  · exact ⟨12, by decide, rfl⟩
  · exact ⟨13, by decide, rfl⟩
  · exact ⟨14, by decide, rfl⟩
set_option maxRecDepth 100000 in
theorem z_isSquare_eq {q : Nat} (h : q < 64) : f_Ch_isSquare (nI q) = 1 := (by decide : ∀ q, q < 64 → f_Ch_isSquare (nI q) = 1) q h
set_option maxRecDepth 100000 in
theorem z_manAt_eq (men : Nat → Int32) {q : Nat} (h : q < 64) : f_Bo_manAt men (nI q) = men q := by
  rw [f_Bo_manAt, z_isSquare_eq h, if_neg (by decide), z_nI_clamp (by omega)]
set_option maxRecDepth 100000 in
theorem z_put_men {men : Nat → Int32} {sets : Nat → Int64} {q : Nat} (hq : q < 64) {m : Int32} (hm : z_vm m = true) : (f_Bo_put men sets (nI q) m).1 = upd men q m := by
  rw [f_Bo_put, z_isSquare_eq hq, if_neg (by decide), z_nI_clamp (by omega), (z_vm_15 hm).1]
set_option maxRecDepth 100000 in
theorem z_put_Bd {men : Nat → Int32} {sets : Nat → Int64} (B : z_Bd men sets) {q : Nat} (hq : q < 64) {m : Int32} (hm : z_vm m = true) :
    z_Bd (f_Bo_put men sets (nI q) m).1 (f_Bo_put men sets (nI q) m).2 := by
  rw [z_put_men hq hm]
  obtain ⟨e15, k, hk, rfl⟩ := z_vm_15 hm
  obtain ⟨f15, j, hj, ej⟩ := z_vm_15 (B.1 q hq)
  refine ⟨?_, ?_⟩
  · intro r hr
    unfold upd; split
    · exact hm
    · exact B.1 r hr
  · intro i hi r hr
    rw [f_Bo_put, z_isSquare_eq hq, if_neg (by decide), z_nI_clamp (by omega), e15, f15, ej, z_nI_clamp (by omega), z_nI_clamp (by omega)]
    have hb : shl64 1 (nI q) = z_bt q := rfl
    dsimp only
    rw [hb]
    unfold vp_updL upd
    have b1 := B.2 i hi r hr
    have b2 := B.2 k hk r hr
    have b3 := B.2 j hj r hr
    have n1 : nI k = nI i ↔ k = i := z_nI_inj (by omega) (by omega)
    have n2 : nI j = nI i ↔ j = i := z_nI_inj (by omega) (by omega)
    have n3 : nI j = nI k ↔ j = k := z_nI_inj (by omega) (by omega)
    by_cases c1 : i = k
    · subst c1
      rw [if_pos rfl, z_tb_or, z_tb_bt hq hr]
      by_cases c2 : i = j
      · subst c2
        rw [if_pos rfl, z_tb_and, z_tb_not _ hr, z_tb_bt hq hr, b1]
        by_cases c3 : r = q
        · simp [c3]
        · simp [c3]
      · rw [if_neg c2, b1]
        by_cases c3 : r = q
        · simp [c3]
        · simp [c3]
    · rw [if_neg c1]
      by_cases c2 : i = j
      · subst c2
        rw [if_pos rfl, z_tb_and, z_tb_not _ hr, z_tb_bt hq hr, b1]
        by_cases c3 : r = q
        · simp [c3, n1, Ne.symm c1]
        · simp [c3]
      · rw [if_neg c2, b1]
        by_cases c3 : r = q
        · subst c3; simp only [if_pos]; rw [ej]; simp [n1, n2, Ne.symm c1, Ne.symm c2]
        · simp [c3]
abbrev z_Pos : Type := (Nat → Int32) × Nat × Nat × Nat × Nat × Nat
def z_Pos.men (P : z_Pos) : Nat → Int32 := P.1
def z_Pos.side (P : z_Pos) : Nat := P.2.1
def z_Pos.rights (P : z_Pos) : Nat := P.2.2.1
def z_Pos.passed (P : z_Pos) : Nat := P.2.2.2.1
def z_Pos.clock (P : z_Pos) : Nat := P.2.2.2.2.1
def z_Pos.number (P : z_Pos) : Nat := P.2.2.2.2.2
def z_pI (p : Nat) : Int32 := if p < 64 then nI p else -1
set_option maxRecDepth 100000 in
theorem z_pI_eq {a p : Nat} (ha : a < 64) (hp : p ≤ 64) : nI a = z_pI p ↔ a = p := by
  unfold z_pI
  split
  · rw [z_nI_inj (by omega) (by omega)]
  · constructor
    · intro h; exact absurd h (z_nI_m1 a (by omega))
    · intro h; omega
def z_lostN (q : Nat) : Nat := if q = 0 then 2 else if q = 4 then 3 else if q = 7 then 1 else if q = 56 then 8 else if q = 60 then 12 else if q = 63 then 4 else 0
abbrev z_isCa (m : Int32) (fr to : Nat) : Prop := m &&& 7 = 6 ∧ (to = fr + 2 ∨ fr = to + 2)
abbrev z_isEp (m : Int32) (passed fr to : Nat) : Prop := m &&& 7 = 1 ∧ to = passed ∧ fr % 8 ≠ to % 8
def z_corner (fr to : Nat) : Nat := if to ≤ fr then fr - 4 else fr + 3
def z_mkMen (men : Nat → Int32) (side passed fr to pr : Nat) : Nat → Int32 :=
  let W1 := if z_isEp (men fr) passed fr to then upd men (8 * (fr / 8) + to % 8) 0 else men
  let W2 := if z_isCa (men fr) fr to then upd (upd W1 ((fr + to) / 2) (W1 (z_corner fr to))) (z_corner fr to) 0 else W1
  upd (upd W2 to (if pr = 0 then men fr else nI (pr + 8 * side))) fr 0
def z_psd (M : Nat → Int32) (pawn : Prop) [Decidable pawn] (side fr to : Nat) : Nat :=
  if pawn ∧ (to = fr + 16 ∨ fr = to + 16) ∧ ((z_nx 1 to < 64 ∧ M (z_nx 1 to) = nI (1 + 8 * (1 - side))) ∨ (z_nx 0 to < 64 ∧ M (z_nx 0 to) = nI (1 + 8 * (1 - side)))) then (fr + to) / 2 else 64
def z_rgt (rights fr to : Nat) : Nat := rights &&& (15 ^^^ z_lostN fr) &&& (15 ^^^ z_lostN to)
def z_mkPos (P : z_Pos) (fr to pr : Nat) : z_Pos :=
  let M := z_mkMen P.men P.side P.passed fr to pr
  (M, 1 - P.side, z_rgt P.rights fr to, z_psd M (P.men fr &&& 7 = 1) P.side fr to, if P.men fr &&& 7 = 1 ∨ P.men to ≠ 0 then 0 else P.clock + 1, P.number + P.side)
set_option maxRecDepth 100000 in
theorem z_lost_eq : ∀ q, q < 64 → f_Mo_lost (nI q) = nI (z_lostN q) := by decide +kernel
set_option maxRecDepth 100000 in
theorem z_lostN_mem (q : Nat) : z_lostN q ∈ [0, 1, 2, 3, 4, 8, 12] := by
  unfold z_lostN; repeat' split
  all_goals decide
set_option maxRecDepth 100000 in
theorem z_rgt_eq0 : ∀ r, r < 16 → ∀ a ∈ [0, 1, 2, 3, 4, 8, 12], ∀ b ∈ [0, 1, 2, 3, 4, 8, 12], (nI r &&& (nI a ^^^ (-1))) &&& (nI b ^^^ (-1)) = nI (r &&& (15 ^^^ a) &&& (15 ^^^ b)) := by decide +kernel
set_option maxRecDepth 100000 in
theorem z_rgt_eq {r fr to : Nat} (hr : r < 16) (hf : fr < 64) (ht : to < 64) : (nI r &&& ((f_Mo_lost (nI fr)) ^^^ (-1))) &&& ((f_Mo_lost (nI to)) ^^^ (-1)) = nI (z_rgt r fr to) := by
  rw [z_lost_eq fr hf, z_lost_eq to ht, z_rgt_eq0 r hr _ (z_lostN_mem fr) _ (z_lostN_mem to)]; rfl
set_option maxRecDepth 100000 in
theorem z_sub_eq_iff {a b c : Nat} (ha : a < 64) (hb : b < 64) (hc : c < 64) (h0 : 0 < c) : nI a - nI b = nI c ↔ a = b + c := by
  constructor
  · intro h
    have := congrArg Int32.toInt h
    rw [Int32.toInt_sub, z_nI_toInt (by omega), z_nI_toInt (by omega), z_nI_toInt (by omega)] at this
    rw [Int.bmod_eq_of_le (by omega) (by omega)] at this; omega
  · intro h; rw [z_nI_sub (by omega) (by omega)]; congr 1; omega
set_option maxRecDepth 100000 in
theorem z_half_eq {a b : Nat} (ha : a < 64) (hb : b < 64) : (nI a + nI b) / 2 = nI ((a + b) / 2) := by
  rw [z_nI_add, show (2 : Int32) = nI 2 from rfl, z_nI_div (by omega) (by omega) (by omega)]
set_option maxRecDepth 100000 in
theorem z_side_flip {s : Nat} (hs : s < 2) : (1 : Int32) - nI s = nI (1 - s) := (by decide : ∀ s, s < 2 → (1 : Int32) - nI s = nI (1 - s)) s hs
set_option maxRecDepth 100000 in
theorem z_make_271 {men : Nat → Int32} {side rights passed clock number fr to pr : Nat} (hs : side < 2) (hr : rights < 16) (hf : fr < 64) (ht : to < 64) (hp : pr < 8) (k58 v7 k195 k246 k271 : Int32) (W105 W : Nat → Int32) (k42 : Nat) (hk : k42 < 2) :
    f_Mo_make_271 men (nI side) (nI rights) (z_pI passed) (nI clock) (nI number) (z_mv fr to pr) (nI k42) k58 v7 W105 W k195 k246 k271 =
    (upd (upd W to k195) fr 0, nI (1 - side), nI (z_rgt rights fr to), z_pI (z_psd (upd (upd W to k195) fr 0) (k42 = 1) side fr to), k246, k271) := by
  have s0 : f_Mo_step (nI to) 1 0 = if z_nx 0 to < 64 then nI (z_nx 0 to) else -1 := z_step_eq 0 (by decide) to ht
  have s1 : f_Mo_step (nI to) (-1) 0 = if z_nx 1 to < 64 then nI (z_nx 1 to) else -1 := z_step_eq 1 (by decide) to ht
  have e16 : (16 : Int32) = nI 16 := rfl
  have hpw : (1 : Int32) + 8 * (1 - nI side) = nI (1 + 8 * (1 - side)) := by
    rw [z_side_flip hs, show (8 : Int32) = nI 8 from rfl, z_nI_mul, show (1 : Int32) = nI 1 from rfl, z_nI_add]
  have key : f_Mo_make_300 men (nI side) (nI rights) (z_pI passed) (nI clock) (nI number) (z_mv fr to pr) (nI k42) k58 v7 W105 W k195 k246 k271 =
      (upd (upd W to k195) fr 0, nI (1 - side), nI (z_rgt rights fr to), z_pI (if ((z_nx 1 to < 64 ∧ (upd (upd W to k195) fr 0) (z_nx 1 to) = nI (1 + 8 * (1 - side))) ∨ (z_nx 0 to < 64 ∧ (upd (upd W to k195) fr 0) (z_nx 0 to) = nI (1 + 8 * (1 - side)))) then (fr + to) / 2 else 64), k246, k271) := by
    have k3 : f_Mo_make_354 men (nI side) (nI rights) (z_pI passed) (nI clock) (nI number) (z_mv fr to pr) (nI k42) k58 v7 W105 W k195 k246 k271 =
        (upd (upd W to k195) fr 0, nI (1 - side), nI (z_rgt rights fr to), z_pI (if (z_nx 0 to < 64 ∧ (upd (upd W to k195) fr 0) (z_nx 0 to) = nI (1 + 8 * (1 - side))) then (fr + to) / 2 else 64), k246, k271) := by
      rw [f_Mo_make_354, z_mv_fr1 hf ht hp, z_mv_to1 hf ht hp, s0, z_rgt_eq hr hf ht, hpw, z_side_flip hs, z_nI_clamp (by omega), z_nI_clamp (by omega), z_half_eq hf ht]
      by_cases c : z_nx 0 to < 64
      · rw [if_pos c, if_neg (z_nI_ge _ c), z_nI_clamp (by omega)]
        by_cases c2 : (upd (upd W to k195) fr 0) (z_nx 0 to) = nI (1 + 8 * (1 - side))
        · rw [if_pos c2, if_pos ⟨c, c2⟩, z_pI, if_pos (by omega)]
        · rw [if_neg c2, if_neg (fun h => c2 h.2), z_pI, if_neg (by omega)]
      · rw [if_neg c, if_pos (by decide), if_neg (fun h => c h.1), z_pI, if_neg (by omega)]
    rw [f_Mo_make_300, z_mv_fr1 hf ht hp, z_mv_to1 hf ht hp, s1, z_rgt_eq hr hf ht, hpw, z_side_flip hs, z_nI_clamp (by omega), z_nI_clamp (by omega), z_half_eq hf ht, k3]
    by_cases c : z_nx 1 to < 64
    · rw [if_pos c, if_neg (z_nI_ge _ c), z_nI_clamp (by omega)]
      by_cases c2 : (upd (upd W to k195) fr 0) (z_nx 1 to) = nI (1 + 8 * (1 - side))
      · rw [if_pos c2, if_pos (.inl ⟨c, c2⟩), z_pI, if_pos (by omega)]
      · rw [if_neg c2]
        have : (z_nx 1 to < 64 ∧ (upd (upd W to k195) fr 0) (z_nx 1 to) = nI (1 + 8 * (1 - side))) ↔ False := ⟨fun h => c2 h.2, False.elim⟩
        simp only [this, false_or]
    · rw [if_neg c, if_pos (by decide)]
      have : (z_nx 1 to < 64 ∧ (upd (upd W to k195) fr 0) (z_nx 1 to) = nI (1 + 8 * (1 - side))) ↔ False := ⟨fun h => c h.1, False.elim⟩
      simp only [this, false_or]
  rw [f_Mo_make_271, z_mv_fr1 hf ht hp, z_mv_to1 hf ht hp, z_rgt_eq hr hf ht, z_side_flip hs, z_nI_clamp (by omega), z_nI_clamp (by omega), key, e16]
  have d1 := z_sub_eq_iff (a := to) (b := fr) (c := 16) ht hf (by decide) (by decide)
  have d2 := z_sub_eq_iff (a := fr) (b := to) (c := 16) hf ht (by decide) (by decide)
  have hk2 : k42 = 0 ∨ k42 = 1 := by omega
  unfold z_psd
  rcases hk2 with rfl | rfl
  · rw [if_pos (by decide), if_neg (fun h => by have := h.1; omega)]; rfl
  · rw [if_neg (by decide)]
    by_cases c1 : nI to - nI fr = nI 16
    · rw [if_pos c1]
      have : to = fr + 16 := d1.mp c1
      simp only [this, true_or, true_and]
    · rw [if_neg c1]
      by_cases c2 : nI fr - nI to = nI 16
      · rw [if_pos c2]
        have : fr = to + 16 := d2.mp c2
        simp only [this, or_true, true_and]
      · rw [if_neg c2, if_neg (fun h => by rcases h.2.1 with h | h; exact c1 (d1.mpr h); exact c2 (d2.mpr h))]; rfl
set_option maxRecDepth 100000 in
theorem z_make_170 {men : Nat → Int32} {side rights passed clock number fr to pr : Nat} (hs : side < 2) (hr : rights < 16) (hf : fr < 64) (ht : to < 64) (hp : pr < 8) (k58 : Int32) (v7 : Nat) (W105 W : Nat → Int32) (k42 : Nat) (hk : k42 < 2) (hv : v7 < 2) :
    f_Mo_make_170 men (nI side) (nI rights) (z_pI passed) (nI clock) (nI number) (z_mv fr to pr) (nI k42) k58 (nI v7) W105 W =
    (let M := upd (upd W to (if pr = 0 then men fr else nI (pr + 8 * side))) fr 0
     (M, nI (1 - side), nI (z_rgt rights fr to), z_pI (z_psd M (k42 = 1) side fr to), nI (if k42 = 1 ∨ v7 = 1 then 0 else clock + 1), nI (number + side))) := by
  have h246 : ∀ k195 k246, f_Mo_make_246 men (nI side) (nI rights) (z_pI passed) (nI clock) (nI number) (z_mv fr to pr) (nI k42) k58 (nI v7) W105 W k195 k246 =
      (upd (upd W to k195) fr 0, nI (1 - side), nI (z_rgt rights fr to), z_pI (z_psd (upd (upd W to k195) fr 0) (k42 = 1) side fr to), k246, nI (number + side)) := by
    intro k195 k246
    rw [f_Mo_make_246, z_make_271 hs hr hf ht hp _ _ _ _ _ _ _ _ hk, z_make_271 hs hr hf ht hp _ _ _ _ _ _ _ _ hk]
    have : side = 0 ∨ side = 1 := by omega
    rcases this with rfl | rfl
    · rw [if_neg (by decide)]; rfl
    · rw [if_pos (by decide), show (1 : Int32) = nI 1 from rfl, z_nI_add]
  have h195 : ∀ k195, f_Mo_make_195 men (nI side) (nI rights) (z_pI passed) (nI clock) (nI number) (z_mv fr to pr) (nI k42) k58 (nI v7) W105 W k195 =
      (upd (upd W to k195) fr 0, nI (1 - side), nI (z_rgt rights fr to), z_pI (z_psd (upd (upd W to k195) fr 0) (k42 = 1) side fr to), nI (if k42 = 1 ∨ v7 = 1 then 0 else clock + 1), nI (number + side)) := by
    intro k195
    rw [f_Mo_make_195, f_Mo_make_236, h246, h246]
    have hk2 : k42 = 0 ∨ k42 = 1 := by omega
    have hv2 : v7 = 0 ∨ v7 = 1 := by omega
    rcases hk2 with rfl | rfl
    · rw [if_pos (by decide)]
      rcases hv2 with rfl | rfl
      · rw [if_pos (by decide)]; simp [show (1 : Int32) = nI 1 from rfl, z_nI_add]
      · rw [if_neg (by decide)]; rfl
    · rw [if_neg (by decide)]; simp; rfl
  rw [f_Mo_make_170, z_mv_pr1 hf ht hp, z_mv_fr1 hf ht hp, h195, h195, z_nI_clamp (by omega)]
  by_cases c : pr = 0
  · subst c; rw [if_pos (by decide)]; rfl
  · have : ¬ nI pr ≤ 0 := by rw [show (0 : Int32) = nI 0 from rfl, z_nI_le (by omega) (by omega)]; omega
    rw [if_neg this]
    have e : nI pr + 8 * nI side = nI (pr + 8 * side) := by rw [show (8 : Int32) = nI 8 from rfl, z_nI_mul, z_nI_add]
    rw [e]; simp only [if_neg c]
set_option maxRecDepth 100000 in
theorem z_make_105 {men : Nat → Int32} {side rights passed clock number fr to pr : Nat} (hs : side < 2) (hr : rights < 16) (hf : fr < 64) (ht : to < 64) (hp : pr < 8) (hk6 : z_isCa (men fr) fr to → 4 ≤ fr ∧ fr + 3 < 64) (k58 : Int32) (v7 : Nat) (W : Nat → Int32) (k42 : Nat) (hk : k42 < 2) (hv : v7 < 2) :
    f_Mo_make_105 men (nI side) (nI rights) (z_pI passed) (nI clock) (nI number) (z_mv fr to pr) (nI k42) k58 (nI v7) W =
    (let W2 := if z_isCa (men fr) fr to then upd (upd W ((fr + to) / 2) (W (z_corner fr to))) (z_corner fr to) 0 else W
     let M := upd (upd W2 to (if pr = 0 then men fr else nI (pr + 8 * side))) fr 0
     (M, nI (1 - side), nI (z_rgt rights fr to), z_pI (z_psd M (k42 = 1) side fr to), nI (if k42 = 1 ∨ v7 = 1 then 0 else clock + 1), nI (number + side))) := by
  have d1 := z_sub_eq_iff (a := to) (b := fr) (c := 2) ht hf (by decide) (by decide)
  have d2 := z_sub_eq_iff (a := fr) (b := to) (c := 2) hf ht (by decide) (by decide)
  have h129 : z_isCa (men fr) fr to → f_Mo_make_129 men (nI side) (nI rights) (z_pI passed) (nI clock) (nI number) (z_mv fr to pr) (nI k42) k58 (nI v7) W =
      f_Mo_make_170 men (nI side) (nI rights) (z_pI passed) (nI clock) (nI number) (z_mv fr to pr) (nI k42) k58 (nI v7) W (upd (upd W ((fr + to) / 2) (W (z_corner fr to))) (z_corner fr to) 0) := by
    intro hc
    have b := hk6 hc
    rw [f_Mo_make_129, f_Mo_make_143, f_Mo_make_143, z_mv_fr1 hf ht hp, z_mv_to1 hf ht hp, z_half_eq hf ht, z_nI_clamp (by omega)]
    rw [show (4 : Int32) = nI 4 from rfl, show (3 : Int32) = nI 3 from rfl, z_nI_sub (by omega) (by omega), z_nI_add, z_nI_clamp (by omega), z_nI_clamp (by omega)]
    unfold z_corner
    by_cases c : to ≤ fr
    · rw [if_pos ((z_nI_le (by omega) (by omega)).mpr c), if_pos c]
    · rw [if_neg (fun h => c ((z_nI_le (by omega) (by omega)).mp h)), if_neg c]
  rw [f_Mo_make_105, z_mv_fr1 hf ht hp, z_mv_to1 hf ht hp, z_nI_clamp (by omega), show f_Mo_kind (men fr) = men fr &&& 7 from rfl, show (2 : Int32) = nI 2 from rfl]
  by_cases c6 : men fr &&& 7 = 6
  · rw [if_pos c6]
    by_cases c1 : nI to - nI fr = nI 2
    · have hc : z_isCa (men fr) fr to := ⟨c6, .inl (d1.mp c1)⟩
      rw [if_pos c1, h129 hc, z_make_170 hs hr hf ht hp _ _ _ _ _ hk hv]; simp only [if_pos hc]
    · rw [if_neg c1]
      by_cases c2 : nI fr - nI to = nI 2
      · have hc : z_isCa (men fr) fr to := ⟨c6, .inr (d2.mp c2)⟩
        rw [if_pos c2, h129 hc, z_make_170 hs hr hf ht hp _ _ _ _ _ hk hv]; simp only [if_pos hc]
      · have hc : ¬ z_isCa (men fr) fr to := fun h => by rcases h.2 with h | h; exact c1 (d1.mpr h); exact c2 (d2.mpr h)
        rw [if_neg c2, z_make_170 hs hr hf ht hp _ _ _ _ _ hk hv]; simp only [if_neg hc]
  · have hc : ¬ z_isCa (men fr) fr to := fun h => c6 h.1
    rw [if_neg c6, z_make_170 hs hr hf ht hp _ _ _ _ _ hk hv]; simp only [if_neg hc]
set_option maxRecDepth 100000 in
theorem z_ref_make {men : Nat → Int32} {side rights passed clock number fr to pr : Nat} (hs : side < 2) (hr : rights < 16) (hf : fr < 64) (ht : to < 64) (hp : pr < 8) (hps : passed ≤ 64) (hk6 : z_isCa (men fr) fr to → 4 ≤ fr ∧ fr + 3 < 64) (hclk : z_isEp (men fr) passed fr to → men to = 0) :
    f_Mo_make men (nI side) (nI rights) (z_pI passed) (nI clock) (nI number) (z_mv fr to pr) =
    (let Q := z_mkPos ⟨men, side, rights, passed, clock, number⟩ fr to pr
     (Q.men, nI Q.side, nI Q.rights, z_pI Q.passed, nI Q.clock, nI Q.number)) := by
  have h8 : ∀ a, a < 64 → nI a - nI a / 8 * 8 = nI (a % 8) := fun a ha => z_nI_mod (b := 8) (by omega) (by decide) (by decide)
  have h88 : ∀ a, a < 64 → nI a / 8 = nI (a / 8) := fun a ha => z_nI_div (b := 8) (by omega) (by decide) (by decide)
  have h58 : ∀ k42 : Nat, k42 < 2 → (k42 = 1 ↔ men fr &&& 7 = 1) → ∀ k58 : Nat, k58 < 2 → (k58 = 1 ↔ men to ≠ 0) →
      f_Mo_make_58 men (nI side) (nI rights) (z_pI passed) (nI clock) (nI number) (z_mv fr to pr) (nI k42) (nI k58) =
      (let Q := z_mkPos ⟨men, side, rights, passed, clock, number⟩ fr to pr
       (Q.men, nI Q.side, nI Q.rights, z_pI Q.passed, nI Q.clock, nI Q.number)) := by
    intro k42 hk hk' k58 hv hv'
    have fin : ∀ (W : Nat → Int32) (v7 : Nat), v7 < 2 → W = (if z_isEp (men fr) passed fr to then upd men (8 * (fr / 8) + to % 8) 0 else men) → ((k42 = 1 ∨ v7 = 1) ↔ (k42 = 1 ∨ k58 = 1)) →
        f_Mo_make_105 men (nI side) (nI rights) (z_pI passed) (nI clock) (nI number) (z_mv fr to pr) (nI k42) (nI k58) (nI v7) W =
        (let Q := z_mkPos ⟨men, side, rights, passed, clock, number⟩ fr to pr
         (Q.men, nI Q.side, nI Q.rights, z_pI Q.passed, nI Q.clock, nI Q.number)) := by
      intro W v7 h7 hW hcl
      rw [z_make_105 hs hr hf ht hp hk6 _ _ _ _ hk h7, hW]
      have hcl2 : (men fr &&& 7 = 1 ∨ v7 = 1) ↔ (men fr &&& 7 = 1 ∨ men to ≠ 0) := by rw [← hk', ← hv']; exact hcl
      simp only [z_mkPos, z_mkMen, hk', hcl2, z_psd, z_Pos.men, z_Pos.side, z_Pos.rights, z_Pos.passed, z_Pos.clock, z_Pos.number]
      rfl
    rw [f_Mo_make_58, z_mv_fr1 hf ht hp, z_mv_to1 hf ht hp, h8 fr hf, h8 to ht, h88 fr hf]
    have hk2 : k42 = 0 ∨ k42 = 1 := by omega
    rcases hk2 with rfl | rfl
    · rw [if_pos (by decide)]
      exact fin men k58 hv (by rw [if_neg (fun h => by have := hk'.mpr h.1; omega)]) Iff.rfl
    · rw [if_neg (by decide)]
      by_cases c1 : nI to = z_pI passed
      · rw [if_pos c1]
        have c1' := (z_pI_eq ht hps).mp c1
        by_cases c2 : nI (fr % 8) = nI (to % 8)
        · rw [if_pos c2]
          exact fin men k58 hv (by rw [if_neg (fun h => h.2.2 ((z_nI_inj (by omega) (by omega)).mp c2))]) Iff.rfl
        · rw [if_neg c2]
          have hE : z_isEp (men fr) passed fr to := ⟨hk'.mp rfl, c1', fun h => c2 (by rw [h])⟩
          have e : (8 : Int32) * nI (fr / 8) + nI (to % 8) = nI (8 * (fr / 8) + to % 8) := by rw [show (8 : Int32) = nI 8 from rfl, z_nI_mul, z_nI_add]
          rw [e, z_nI_clamp (by omega)]
          exact fin _ 1 (by decide) (by rw [if_pos hE]) (by simp)
      · rw [if_neg c1]
        exact fin men k58 hv (by rw [if_neg (fun h => c1 ((z_pI_eq ht hps).mpr h.2.1))]) Iff.rfl
  have h42 : ∀ k42 : Nat, k42 < 2 → (k42 = 1 ↔ men fr &&& 7 = 1) →
      f_Mo_make_42 men (nI side) (nI rights) (z_pI passed) (nI clock) (nI number) (z_mv fr to pr) (nI k42) =
      (let Q := z_mkPos ⟨men, side, rights, passed, clock, number⟩ fr to pr
       (Q.men, nI Q.side, nI Q.rights, z_pI Q.passed, nI Q.clock, nI Q.number)) := by
    intro k42 hk hk'
    rw [f_Mo_make_42, z_mv_to1 hf ht hp, z_nI_clamp (by omega)]
    by_cases c : men to = 0
    · rw [if_pos c]; exact h58 k42 hk hk' 0 (by decide) (by simp [c])
    · rw [if_neg c]; exact h58 k42 hk hk' 1 (by decide) (by simp [c])
  rw [f_Mo_make, z_mv_fr1 hf ht hp, z_nI_clamp (by omega), show f_Mo_kind (men fr) = men fr &&& 7 from rfl]
  by_cases c : men fr &&& 7 = 1
  · rw [if_pos c]; exact h42 1 (by decide) (by simp [c])
  · rw [if_neg c]; exact h42 0 (by decide) (by simp [c])

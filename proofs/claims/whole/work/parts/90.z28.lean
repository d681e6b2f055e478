def z_bkN (f : Nat) : Nat := if f = 0 ∨ f = 7 then 4 else if f = 1 ∨ f = 6 then 2 else if f = 2 ∨ f = 5 then 3 else if f = 3 then 5 else 6
def z_iniM (k : Nat) : Nat → Int32 := fun j => if j < k then nI (z_bkN j) else if 8 ≤ j ∧ j < 8 + k then 1 else if 48 ≤ j ∧ j < 48 + k then 9 else if 56 ≤ j ∧ j < 56 + k then nI (z_bkN (j - 56) + 8) else 0
def z_P0 : z_Pos := (z_iniM 8, 0, 15, 64, 0, 1)
set_option maxRecDepth 100000 in
theorem z_P0_flt : z_fltN z_P0 = 0 := by decide +kernel
set_option maxRecDepth 100000 in
theorem z_P0_val : z_Val z_P0 := z_flt_val (by decide) (by decide) (by decide) (by decide +kernel) z_P0_flt
set_option maxRecDepth 100000 in
theorem z_P0_VP : z_VP (z_iniM 8) 0 15 (-1) 0 1 := ⟨z_P0, z_P0_val, rfl, rfl, rfl, by decide, rfl, rfl⟩
def z_sg0 (p : Nat) : Nat := ([114, 110, 98, 113, 107, 98, 110, 114, 47, 112, 112, 112, 112, 112, 112, 112, 112, 47, 56, 47, 56, 47, 56, 47, 56, 47, 80, 80, 80, 80, 80, 80, 80, 80, 47, 82, 78, 66, 81, 75, 66, 78, 82, 32, 119, 32, 75, 81, 107, 113, 32, 45, 32, 48, 32, 49] : List Nat).getD p 0
def z_tx0B : Bool := match z_txS z_sg0 56 with
  | some P => (List.range 64).all (fun q => decide (P.men q = z_iniM 8 q)) && decide (P.2 = (0, 15, 64, 0, 1))
  | none => false
set_option maxRecDepth 100000 in
theorem z_tx0 : z_tx0B = true := by decide +kernel
set_option maxRecDepth 100000 in
theorem z_tx0_eq : ∃ P, z_txS z_sg0 56 = some P ∧ z_Eqv P z_P0 := by
  have h := z_tx0
  unfold z_tx0B at h
  cases hx : z_txS z_sg0 56 with
  | none => rw [hx] at h; exact absurd h (by decide)
  | some P =>
    rw [hx] at h
    dsimp only at h
    rw [Bool.and_eq_true, List.all_eq_true, decide_eq_true_eq] at h
    exact ⟨P, rfl, fun q hq => of_decide_eq_true (h.1 q (List.mem_range.mpr hq)), h.2⟩
set_option maxRecDepth 100000 in
theorem z_first_b : ∀ k, k < 56 → f_Js_charAt 56 tFIRST (nI k) = nI (z_sg0 k) ∧ ¬ f_Js_length 56 tFIRST ≤ nI k ∧ z_sg0 k < 128 := by decide +kernel
set_option maxRecDepth 100000 in
theorem z_first_e : f_Js_length 56 tFIRST ≤ nI 56 := by decide +kernel
set_option maxRecDepth 100000 in
theorem z_sg0_hi : ∀ p, 56 ≤ p → z_sg0 p = 0 := by
  intro p hp
  unfold z_sg0
  rw [List.getD_eq_getElem?_getD, List.getElem?_eq_none (by exact hp)]; rfl
def z_INV (r : St_Re) (w : St_Li) (g : St_Ga) (typed : Int32) (text : Nat → Int32) (told : Int32) (out men : Nat → Int32) (a b c d e pls : Int32) (pm p1 p2 p3 p4 p5 : Nat → Int32) (pt : Nat → Int64) (pl : Nat → Int32) : Prop :=
  z_TI r.1 typed text ∧ (∃ M, z_BdM M r.2.1.1) ∧ z_WI w told out ∧ z_GI g men a b c d e pls pm p1 p2 p3 p4 p5 pt pl
set_option maxRecDepth 100000 in
theorem z_iv_ty {r : St_Re} {w : St_Li} {g : St_Ga} {typed : Int32} {text : Nat → Int32} {told : Int32} {out men : Nat → Int32} {a b c d e pls : Int32} {pm p1 p2 p3 p4 p5 : Nat → Int32} {pt : Nat → Int64} {pl : Nat → Int32} (h : z_INV r w g typed text told out men a b c d e pls pm p1 p2 p3 p4 p5 pt pl) : 0 ≤ typed.toInt ∧ typed.toInt ≤ 100 := by
  obtain ⟨n, h1, _, h3, _⟩ := h.1
  rw [h3, z_nI_toInt (by omega)]; omega
set_option maxRecDepth 100000 in
theorem z_iv_to {r : St_Re} {w : St_Li} {g : St_Ga} {typed : Int32} {text : Nat → Int32} {told : Int32} {out men : Nat → Int32} {a b c d e pls : Int32} {pm p1 p2 p3 p4 p5 : Nat → Int32} {pt : Nat → Int64} {pl : Nat → Int32} (h : z_INV r w g typed text told out men a b c d e pls pm p1 p2 p3 p4 p5 pt pl) : 0 ≤ told.toInt ∧ told.toInt ≤ 100 := by
  obtain ⟨n, h1, _, h3, _⟩ := h.2.2.1
  rw [h3, z_nI_toInt (by omega)]; omega
set_option maxRecDepth 100000 in
theorem z_iv_type {r : St_Re} {w : St_Li} {g : St_Ga} {typed : Int32} {text : Nat → Int32} {told : Int32} {out men : Nat → Int32} {a b c d e pls : Int32} {pm p1 p2 p3 p4 p5 : Nat → Int32} {pt : Nat → Int64} {pl : Nat → Int32} (h : z_INV r w g typed text told out men a b c d e pls pm p1 p2 p3 p4 p5 pt pl) (th : Int32) (x : Int64) (n : Int32) : (f_Ch_type r x n).1 = (f_Mo_type th typed text x n).1 ∧ z_INV (f_Ch_type r x n).2 w g (f_Mo_type th typed text x n).2.2.1 (f_Mo_type th typed text x n).2.2.2 told out men a b c d e pls pm p1 p2 p3 p4 p5 pt pl := by
  obtain ⟨s1, s2, z_s3⟩ := z_same_type h.1 th x n
  exact ⟨s1, s2, by rw [z_s3]; exact h.2.1, h.2.2⟩
set_option maxRecDepth 100000 in
theorem z_iv_cut {r : St_Re} {w : St_Li} {g : St_Ga} {typed : Int32} {text : Nat → Int32} {told : Int32} {out men : Nat → Int32} {a b c d e pls : Int32} {pm p1 p2 p3 p4 p5 : Nat → Int32} {pt : Nat → Int64} {pl : Nat → Int32} (h : z_INV r w g typed text told out men a b c d e pls pm p1 p2 p3 p4 p5 pt pl) (n : Int32) : (f_Ch_cut r n).1 = (f_Mo_cut typed n).1 ∧ z_INV (f_Ch_cut r n).2 w g (f_Mo_cut typed n).2.2 text told out men a b c d e pls pm p1 p2 p3 p4 p5 pt pl := by
  obtain ⟨s1, s2, z_s3⟩ := z_same_cut h.1 n
  exact ⟨s1, s2, by rw [z_s3]; exact h.2.1, h.2.2⟩
set_option maxRecDepth 100000 in
theorem z_iv_write {r : St_Re} {w : St_Li} {g : St_Ga} {typed : Int32} {text : Nat → Int32} {told : Int32} {out men : Nat → Int32} {a b c d e pls : Int32} {pm p1 p2 p3 p4 p5 : Nat → Int32} {pt : Nat → Int64} {pl : Nat → Int32} (h : z_INV r w g typed text told out men a b c d e pls pm p1 p2 p3 p4 p5 pt pl) (th : Int32) : (f_Ch_write w g).1 = (f_Mo_write th told out men a b c d e).1 ∧ z_INV r (f_Ch_write w g).2 g typed text (f_Mo_write th told out men a b c d e).2.2.1 (f_Mo_write th told out men a b c d e).2.2.2 men a b c d e pls pm p1 p2 p3 p4 p5 pt pl := by
  obtain ⟨s1, s2⟩ := z_same_write h.2.2.2 h.2.2.1 th
  exact ⟨s1, h.1, h.2.1, s2, h.2.2.2⟩
set_option maxRecDepth 100000 in
theorem z_iv_load {r : St_Re} {w : St_Li} {g : St_Ga} {typed : Int32} {text : Nat → Int32} {told : Int32} {out men : Nat → Int32} {a b c d e pls : Int32} {pm p1 p2 p3 p4 p5 : Nat → Int32} {pt : Nat → Int64} {pl : Nat → Int32} (h : z_INV r w g typed text told out men a b c d e pls pm p1 p2 p3 p4 p5 pt pl) (kM kR : Nat → Int32)
    {B : Int32 × Int32 × Int32 × (Nat → Int32) × Int32 × Int32 × Int32 × Int32 × Int32 × Int32 × (Nat → Int32) × (Nat → Int32) × (Nat → Int32) × (Nat → Int32) × (Nat → Int32) × (Nat → Int32) × (Nat → Int64) × (Nat → Int32) × (Nat → Int32)}
    (hB : B = f_Mo_load typed text men a b c d e pls pm p1 p2 p3 p4 p5 pt kM kR) :
    (f_Ch_load r g).1 = B.1 ∧ z_INV (f_Ch_load r g).2.1 w (f_Ch_load r g).2.2 B.2.2.1 text told out B.2.2.2.1 B.2.2.2.2.1 B.2.2.2.2.2.1 B.2.2.2.2.2.2.1 B.2.2.2.2.2.2.2.1 B.2.2.2.2.2.2.2.2.1 B.2.2.2.2.2.2.2.2.2.1 B.2.2.2.2.2.2.2.2.2.2.1 B.2.2.2.2.2.2.2.2.2.2.2.1 B.2.2.2.2.2.2.2.2.2.2.2.2.1 B.2.2.2.2.2.2.2.2.2.2.2.2.2.1 B.2.2.2.2.2.2.2.2.2.2.2.2.2.2.1 B.2.2.2.2.2.2.2.2.2.2.2.2.2.2.2.1 B.2.2.2.2.2.2.2.2.2.2.2.2.2.2.2.2.1 pl := by
  obtain ⟨M, hM⟩ := h.2.1
  obtain ⟨s1, s2, z_s3, s4⟩ := z_same_load h.2.2.2 h.1 hM kM kR hB
  exact ⟨s1, s2, z_s3, h.2.2.1, s4⟩
set_option maxRecDepth 100000 in
theorem z_ini_0 : (fun _ => 0) = z_iniM 0 := by
  funext q; unfold z_iniM
  rw [if_neg (by omega), if_neg (by omega), if_neg (by omega), if_neg (by omega)]
set_option maxRecDepth 100000 in
theorem z_ini_step {W : Nat → Int32} {v k : Int32} (h0 : 0 ≤ v.toInt) (h8 : v.toInt < 8) (hW : W = z_iniM v.toNatClampNeg) (hk : k = nI (z_bkN v.toNatClampNeg)) :
    upd (upd (upd (upd W v.toNatClampNeg k) (8 + v).toNatClampNeg 1) (48 + v).toNatClampNeg 9) (56 + v).toNatClampNeg (k + 8) = z_iniM (v + 1).toNatClampNeg := by
  obtain ⟨j, hj, rfl⟩ : ∃ j : Nat, j < 8 ∧ v = nI j := ⟨v.toInt.toNat, by omega, z_of_nonneg h0⟩
  rw [z_nI_clamp (by omega)] at hW hk
  rw [show (8 : Int32) + nI j = nI (8 + j) from z_nI_add 8 j, show (48 : Int32) + nI j = nI (48 + j) from z_nI_add 48 j, show (56 : Int32) + nI j = nI (56 + j) from z_nI_add 56 j, show nI j + 1 = nI (j + 1) from z_nI_add j 1, z_nI_clamp (by omega), z_nI_clamp (by omega), z_nI_clamp (by omega), z_nI_clamp (by omega), z_nI_clamp (by omega), hW, hk]
  funext q
  unfold upd
  by_cases c1 : q = 56 + j
  · rw [if_pos c1]; unfold z_iniM
    rw [if_neg (by omega), if_neg (by omega), if_neg (by omega), if_pos (by omega), c1, Nat.add_sub_cancel_left]
    exact z_nI_add (z_bkN j) 8
  · rw [if_neg c1]
    by_cases c2 : q = 48 + j
    · rw [if_pos c2]; unfold z_iniM
      rw [if_neg (by omega), if_neg (by omega), if_pos (by omega)]
    · rw [if_neg c2]
      by_cases c3 : q = 8 + j
      · rw [if_pos c3]; unfold z_iniM
        rw [if_neg (by omega), if_pos (by omega)]
      · rw [if_neg c3]
        by_cases c4 : q = j
        · rw [if_pos c4]; unfold z_iniM
          rw [if_pos (by omega), c4]
        · rw [if_neg c4]; unfold z_iniM
          by_cases d1 : q < j
          · rw [if_pos d1, if_pos (by omega)]
          · rw [if_neg d1, if_neg (show ¬ q < j + 1 by omega)]
            by_cases d2 : 8 ≤ q ∧ q < 8 + j
            · rw [if_pos d2, if_pos (by omega)]
            · rw [if_neg d2, if_neg (show ¬ (8 ≤ q ∧ q < 8 + (j + 1)) by omega)]
              by_cases d3 : 48 ≤ q ∧ q < 48 + j
              · rw [if_pos d3, if_pos (by omega)]
              · rw [if_neg d3, if_neg (show ¬ (48 ≤ q ∧ q < 48 + (j + 1)) by omega)]
                by_cases d4 : 56 ≤ q ∧ q < 56 + j
                · rw [if_pos d4, if_pos (by omega)]
                · rw [if_neg d4, if_neg (show ¬ (56 ≤ q ∧ q < 56 + (j + 1)) by omega)]
set_option maxRecDepth 100000 in
theorem z_bk_of {v k : Int32} (h : (v.toInt = 0 ∨ v.toInt = 7) ∧ k.toInt = 4 ∨ (v.toInt = 1 ∨ v.toInt = 6) ∧ k.toInt = 2 ∨ (v.toInt = 2 ∨ v.toInt = 5) ∧ k.toInt = 3 ∨ v.toInt = 3 ∧ k.toInt = 5 ∨ v.toInt = 4 ∧ k.toInt = 6) : k = nI (z_bkN v.toNatClampNeg) := by
  obtain ⟨j, hj, rfl⟩ : ∃ j : Nat, j < 8 ∧ v = nI j := ⟨v.toInt.toNat, by omega, z_of_nonneg (by omega)⟩
  obtain ⟨i, hi, rfl⟩ : ∃ i : Nat, i < 8 ∧ k = nI i := ⟨k.toInt.toNat, by omega, z_of_nonneg (by omega)⟩
  rw [z_nI_toInt (by omega), z_nI_toInt (by omega)] at h
  rw [z_nI_clamp (by omega)]
  have e : i = z_bkN j := by
    unfold z_bkN
    by_cases c0 : j = 0 ∨ j = 7
    · rw [if_pos c0]; omega
    · rw [if_neg c0]
      by_cases c1 : j = 1 ∨ j = 6
      · rw [if_pos c1]; omega
      · rw [if_neg c1]
        by_cases c2 : j = 2 ∨ j = 5
        · rw [if_pos c2]; omega
        · rw [if_neg c2]
          by_cases c3 : j = 3
          · rw [if_pos c3]; omega
          · rw [if_neg c3]; omega
  rw [e]
set_option maxRecDepth 100000 in
theorem z_ini_VP {W : Nat → Int32} {v : Int32} (hW : W = z_iniM v.toNatClampNeg) (h : v.toInt = 8) : z_VP W 0 15 (-1) 0 1 := by
  have e : v = nI 8 := by rw [z_of_nonneg (m := v) (by omega), h]; rfl
  rw [hW, e]; exact z_P0_VP

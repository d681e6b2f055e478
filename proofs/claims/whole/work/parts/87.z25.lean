set_option maxRecDepth 100000 in
theorem z_char_b : ∀ c, c < 256 → vp_nar .char (toChar (nI c)) = nI c := by decide +kernel
set_option maxRecDepth 100000 in
theorem z_char_n : ∀ c, c < 128 → (nI c).toUInt32.toUInt16.toUInt32.toInt32 = nI c := by decide +kernel
def z_TI (t : St_Li) (typed : Int32) (text : Nat → Int32) : Prop :=
  ∃ n, n ≤ 100 ∧ t.2 = nI n ∧ typed = nI n ∧ (∀ j, j < n → t.1 j = text j) ∧ ∀ j, ∃ c, c < 128 ∧ text j = nI c
set_option maxRecDepth 100000 in
theorem z_TI.nar {t : St_Li} {typed : Int32} {text : Nat → Int32} (h : z_TI t typed text) : ∀ j : Nat, j < 100 → narrow .char (.int (text j)) = .int (text j) := by
  obtain ⟨n, _, _, _, _, h5⟩ := h
  intro j _
  obtain ⟨c, hc, ec⟩ := h5 j
  rw [ec]
  exact congrArg Value.int (z_char_n c hc)
def z_sgT (n : Nat) (text : Nat → Int32) : Nat → Nat := fun p => if p < n then (text p).toInt.toNat else 0
set_option maxRecDepth 100000 in
theorem z_sgT_lt {n : Nat} {text : Nat → Int32} (h5 : ∀ j, ∃ c, c < 128 ∧ text j = nI c) (p : Nat) : z_sgT n text p < 128 ∧ (p < n → text p = nI (z_sgT n text p)) := by
  obtain ⟨c, hc, ec⟩ := h5 p
  have e : (text p).toInt.toNat = c := by rw [ec, z_nI_toInt (by omega)]; rfl
  unfold z_sgT
  by_cases hp : p < n
  · rw [if_pos hp, e]; exact ⟨hc, fun _ => ec⟩
  · rw [if_neg hp]; exact ⟨by omega, fun h => absurd h hp⟩
set_option maxRecDepth 100000 in
theorem z_TI.sg {t : St_Li} {typed : Int32} {text : Nat → Int32} (h : z_TI t typed text) :
    ∃ n sg, n ≤ 100 ∧ t.2 = nI n ∧ typed = nI n ∧ z_SgOk typed text sg ∧ z_SgC t sg ∧ ∀ p, n ≤ p → sg p = 0 := by
  obtain ⟨n, h1, h2, h3, h4, h5⟩ := h
  refine ⟨n, z_sgT n text, h1, h2, h3, fun p hp => ⟨?_, (z_sgT_lt h5 p).1⟩, fun p hp => ⟨?_, (z_sgT_lt h5 p).1⟩, fun p hp => by unfold z_sgT; rw [if_neg (by omega)]⟩
  · unfold f_Mo_sign
    rw [h3]
    by_cases c : p < n
    · rw [if_neg (by rw [z_nI_le (by omega) (by omega)]; omega), z_nI_clamp (by omega)]; exact (z_sgT_lt h5 p).2 c
    · rw [if_pos (by rw [z_nI_le (by omega) (by omega)]; omega)]; unfold z_sgT; rw [if_neg c]; rfl
  · unfold f_Li_at
    rw [h2, if_neg (by rw [show (0 : Int32) = nI 0 from rfl, z_nI_lt (by omega) (by omega)]; omega)]
    by_cases c : p < n
    · rw [if_neg (by rw [z_nI_le (by omega) (by omega)]; omega), if_neg (by rw [show (100 : Int32) = nI 100 from rfl, z_nI_le (by omega) (by omega)]; omega), z_nI_clamp (by omega), h4 p c]; exact (z_sgT_lt h5 p).2 c
    · rw [if_pos (by rw [z_nI_le (by omega) (by omega)]; omega)]; unfold z_sgT; rw [if_neg c]; rfl
set_option maxRecDepth 100000 in
theorem z_TI.txp {t : St_Li} {typed : Int32} {text : Nat → Int32} (h : z_TI t typed text) : z_TXP typed text := by
  obtain ⟨n, sg, h1, _, h3, h4, _, h6⟩ := h.sg
  exact ⟨n, sg, h1, h3, h4, h6⟩
set_option maxRecDepth 100000 in
theorem z_tb_shr (x : Int64) {k : Nat} (hk : k < 64) {q : Nat} (hq : k + q < 64) : z_tb (shr64 x (nI k)) q = z_tb x (k + q) := by
  have e : (shr64 x (nI k)).toBitVec = x.toBitVec.sshiftRight k := by
    rw [shr64, Int64.toBitVec_shiftRight, z_k63 k hk, BitVec.sshiftRight_eq', BitVec.toNat_ofNat, Nat.mod_eq_of_lt (by omega)]
  rw [z_tb, e, BitVec.getLsbD_sshiftRight, show decide (64 ≤ q) = false from decide_eq_false (by omega), if_pos hq]
  rfl
set_option maxRecDepth 100000 in
theorem z_and255 (y : Nat) : y &&& 255 = y % 256 := Nat.and_two_pow_sub_one_eq_mod y 8
set_option maxRecDepth 100000 in
theorem z_tb_255 : ∀ q, q < 64 → z_tb 255 q = decide (q < 8) := by decide +kernel
set_option maxRecDepth 100000 in
theorem z_low8 (x : Int64) : x.toInt32 &&& 255 = nI (z_nat x % 256) := by
  apply Int32.toBitVec_inj.mp
  apply BitVec.eq_of_toNat_eq
  rw [Int32.toBitVec_and, BitVec.toNat_and]
  have h1 : x.toInt32.toBitVec.toNat = z_nat x % 2 ^ 32 := by
    have : x.toInt32.toBitVec = x.toBitVec.setWidth 32 := (show x.toInt32.toBitVec = x.toBitVec.signExtend 32 from rfl).trans (BitVec.signExtend_eq_setWidth_of_le _ (by decide))
    rw [this, BitVec.toNat_setWidth]; rfl
  have h2 : (255 : Int32).toBitVec.toNat = 255 := by decide
  have h3 : (nI (z_nat x % 256)).toBitVec.toNat = z_nat x % 256 % 2 ^ 32 := by
    have : (nI (z_nat x % 256)).toBitVec = BitVec.ofNat 32 (z_nat x % 256) := rfl
    rw [this, BitVec.toNat_ofNat]
  rw [h1, h2, h3, z_and255]
  omega
def z_bY (w : Int64) (i : Nat) : Nat := z_nat (ushr64 w (nI (8 * i))) % 256
set_option maxRecDepth 100000 in
theorem z_bY_lt (w : Int64) (i : Nat) : z_bY w i < 256 := Nat.mod_lt _ (by decide)
set_option maxRecDepth 100000 in
theorem z_byteOf_eq (w : Int64) (i : Nat) : f_Ch_byteOf w (nI i) = nI (z_bY w i) := by
  unfold f_Ch_byteOf z_bY
  rw [show (8 : Int32) = nI 8 from rfl, z_nI_mul, z_low8]
set_option maxRecDepth 100000 in
theorem z_nL_nat (x : Int64) : x = z_nL (z_nat x) := by
  unfold z_nL z_nat
  apply Int64.toBitVec_inj.mp
  rw [show (Int64.ofNat x.toBitVec.toNat).toBitVec = BitVec.ofNat 64 x.toBitVec.toNat from rfl]
  apply BitVec.eq_of_toNat_eq
  rw [BitVec.toNat_ofNat, Nat.mod_eq_of_lt x.toBitVec.isLt]
set_option maxRecDepth 100000 in
theorem z_byteR_eq (w : Int64) {i : Nat} (hi : i < 8) : (shr64 w (8 * nI i)) &&& 255 = z_nL (z_bY w i) := by
  rw [show (8 : Int32) = nI 8 from rfl, z_nI_mul]
  have e : (shr64 w (nI (8 * i))) &&& 255 = (ushr64 w (nI (8 * i))) &&& 255 := by
    apply z_tb_ext
    intro q hq
    rw [z_tb_and, z_tb_and, z_tb_255 q hq]
    by_cases c : q < 8
    · rw [z_tb_shr w (by omega) (by omega), z_tb_ushr w (by omega)]
    · rw [decide_eq_false c]; simp
  rw [e, z_nL_nat ((ushr64 w (nI (8 * i))) &&& 255), z_nat_and, show z_nat 255 = 255 from by decide, z_and255]
  rfl
set_option maxRecDepth 100000 in
theorem z_nL_cmp : ∀ b, b < 256 → (z_nL b < 32 ↔ b < 32) ∧ (z_nL b ≤ 126 ↔ b ≤ 126) ∧ (z_nL b).toInt32 = nI b := by decide +kernel
set_option maxRecDepth 100000 in
theorem z_nI_cmp : ∀ b, b < 256 → (nI b < 32 ↔ b < 32) ∧ (nI b ≤ 126 ↔ b ≤ 126) := by decide +kernel
def z_okB (w : Int64) (i : Nat) : Bool := decide (32 ≤ z_bY w i) && decide (z_bY w i ≤ 126)
def z_apT (t : Nat → Int32) (w : Int64) (L c k : Nat) : Nat → Int32 := fun j => if L ≤ j ∧ j < L + c then nI (z_bY w (k + (j - L))) else t j
set_option maxRecDepth 100000 in
theorem z_apT_step (t : Nat → Int32) (w : Int64) (L c k : Nat) : z_apT (upd t L (nI (z_bY w k))) w (L + 1) c (k + 1) = z_apT t w L (c + 1) k := by
  funext j; unfold z_apT upd
  by_cases c1 : j = L
  · rw [if_neg (by omega), if_pos c1, if_pos (by omega), c1, Nat.sub_self, Nat.add_zero]
  · by_cases c2 : L + 1 ≤ j ∧ j < L + 1 + c
    · rw [if_pos c2, if_pos (by omega), show k + 1 + (j - (L + 1)) = k + (j - L) by omega]
    · rw [if_neg c2, if_neg c1, if_neg (by omega)]
set_option maxRecDepth 100000 in
theorem z_apT_zero (t : Nat → Int32) (w : Int64) (L k : Nat) : z_apT t w L 0 k = t := by
  funext j; unfold z_apT; rw [if_neg (by omega)]
set_option maxRecDepth 100000 in
theorem z_type_37 (r : St_Re) (w : Int64) {n : Nat} (hn : n ≤ 8) : ∀ c k, k + c = n →
    f_Ch_type_37 r w (nI n) (c + 1) (nI k) = if z_alF (z_okB w) k c then f_Ch_type_76 r w (nI n) (nI n) (n + 1) 0 r else (0, r) := by
  intro c
  induction c with
  | zero =>
    intro k h
    have hk : k = n := by omega
    subst hk
    rw [f_Ch_type_37]; dsimp only
    rw [if_pos (by rw [z_nI_le (by omega) (by omega)]; omega), z_nI_toInt (by omega), show ((k : Int) - 0).toNat = k by omega, z_alF, if_pos rfl]
  | succ c ih =>
    intro k h
    have b := z_nI_cmp (z_bY w k) (z_bY_lt w k)
    rw [f_Ch_type_37]; dsimp only
    rw [if_neg (by rw [z_nI_le (by omega) (by omega)]; omega), z_byteOf_eq, z_alF]
    by_cases c1 : z_bY w k < 32
    · rw [if_pos (b.1.mpr c1), show z_okB w k = false from by unfold z_okB; rw [decide_eq_false (by omega)]; rfl]; rfl
    · rw [if_neg (fun h => c1 (b.1.mp h))]
      by_cases c2 : z_bY w k ≤ 126
      · rw [if_pos (b.2.mpr c2), show nI k + 1 = nI (k + 1) from z_nI_add k 1, ih (k + 1) (by omega), show z_okB w k = true from by unfold z_okB; rw [decide_eq_true (show 32 ≤ z_bY w k by omega), decide_eq_true c2]; rfl, Bool.true_and]
      · rw [if_neg (fun h => c2 (b.2.mp h)), show z_okB w k = false from by unfold z_okB; rw [decide_eq_false c2]; simp]; rfl
set_option maxRecDepth 100000 in
theorem z_type_76 (r : St_Re) (w : Int64) {n : Nat} (hn : n ≤ 8) (v : Int32) : ∀ c k L (W : St_Re), k + c = n → W.1.2 = nI L → L + c ≤ 100 →
    f_Ch_type_76 r w (nI n) v (c + 1) (nI k) W = (1, (z_apT W.1.1 w L c k, nI (L + c)), W.2.1, W.2.2) := by
  intro c
  induction c with
  | zero =>
    intro k L W h hL h100
    have hk : k = n := by omega
    subst hk
    rw [f_Ch_type_76]; dsimp only
    rw [if_pos (by rw [z_nI_le (by omega) (by omega)]; omega), z_apT_zero, Nat.add_zero, ← hL]
  | succ c ih =>
    intro k L W h hL h100
    rw [f_Ch_type_76]; dsimp only
    rw [if_neg (by rw [z_nI_le (by omega) (by omega)]; omega), z_byteOf_eq, hL, f_Li_add]
    rw [if_neg (by rw [show (0 : Int32) = nI 0 from rfl, z_nI_lt (by omega) (by omega)]; omega), if_neg (by rw [show (100 : Int32) = nI 100 from rfl, z_nI_le (by omega) (by omega)]; omega), z_nI_clamp (by omega), z_char_b _ (z_bY_lt w k), show nI L + 1 = nI (L + 1) from z_nI_add L 1]
    rw [f_Ch_type_r90, show nI k + 1 = nI (k + 1) from z_nI_add k 1, ih (k + 1) (L + 1) _ (by omega) rfl (by omega)]
    dsimp only
    rw [z_apT_step, show L + 1 + c = L + (c + 1) by omega]
set_option maxRecDepth 100000 in
theorem z_rtype_32 (th ty : Int32) (tx : Nat → Int32) (w : Int64) {n : Nat} (hn : n ≤ 8) : ∀ c k, k + c = n →
    f_Mo_type_32 th ty tx w (nI n) (c + 1) (nI k) = if z_alF (z_okB w) k c then f_Mo_type_80 th ty tx w (nI n) (nI n) (n + 1) 0 ty tx else (0, 0, ty, tx) := by
  intro c
  induction c with
  | zero =>
    intro k h
    have hk : k = n := by omega
    subst hk
    rw [f_Mo_type_32]; dsimp only
    rw [if_pos (by rw [z_nI_le (by omega) (by omega)]; omega), z_nI_toInt (by omega), show ((k : Int) - 0).toNat = k by omega, z_alF, if_pos rfl]
  | succ c ih =>
    intro k h
    have b := z_nL_cmp (z_bY w k) (z_bY_lt w k)
    rw [f_Mo_type_32]; dsimp only
    rw [if_neg (by rw [z_nI_le (by omega) (by omega)]; omega), z_byteR_eq w (by omega), z_alF]
    by_cases c1 : z_bY w k < 32
    · rw [if_pos (b.1.mpr c1), show z_okB w k = false from by unfold z_okB; rw [decide_eq_false (by omega)]; rfl]; rfl
    · rw [if_neg (fun h => c1 (b.1.mp h))]
      by_cases c2 : z_bY w k ≤ 126
      · rw [if_pos (b.2.1.mpr c2), show nI k + 1 = nI (k + 1) from z_nI_add k 1, ih (k + 1) (by omega), show z_okB w k = true from by unfold z_okB; rw [decide_eq_true (show 32 ≤ z_bY w k by omega), decide_eq_true c2]; rfl, Bool.true_and]
      · rw [if_neg (fun h => c2 (b.2.1.mp h)), show z_okB w k = false from by unfold z_okB; rw [decide_eq_false c2]; simp]; rfl
set_option maxRecDepth 100000 in
theorem z_rtype_80 (th ty : Int32) (tx : Nat → Int32) (w : Int64) {n : Nat} (hn : n ≤ 8) (v : Int32) : ∀ c k L W, k + c = n → L + c ≤ 100 →
    f_Mo_type_80 th ty tx w (nI n) v (c + 1) (nI k) (nI L) W = (1, 0, nI (L + c), z_apT W w L c k) := by
  intro c
  induction c with
  | zero =>
    intro k L W h h100
    have hk : k = n := by omega
    subst hk
    rw [f_Mo_type_80]; dsimp only
    rw [if_pos (by rw [z_nI_le (by omega) (by omega)]; omega), z_apT_zero, Nat.add_zero]
  | succ c ih =>
    intro k L W h h100
    rw [f_Mo_type_80]; dsimp only
    rw [if_neg (by rw [z_nI_le (by omega) (by omega)]; omega), z_byteR_eq w (by omega), (z_nL_cmp (z_bY w k) (z_bY_lt w k)).2.2, z_char_b _ (z_bY_lt w k), z_nI_clamp (by omega), show nI L + 1 = nI (L + 1) from z_nI_add L 1, show nI k + 1 = nI (k + 1) from z_nI_add k 1, ih (k + 1) (L + 1) _ (by omega) (by omega), z_apT_step, show L + 1 + c = L + (c + 1) by omega]
set_option maxRecDepth 100000 in
theorem z_apT_TI {t : Nat → Int32} {text : Nat → Int32} {w : Int64} {L n : Nat} (h4 : ∀ j, j < L → t j = text j) (h5 : ∀ j, ∃ c, c < 128 ∧ text j = nI c) (hok : z_alF (z_okB w) 0 n = true) :
    (∀ j, j < L + n → z_apT t w L n 0 j = z_apT text w L n 0 j) ∧ ∀ j, ∃ c, c < 128 ∧ z_apT text w L n 0 j = nI c := by
  refine ⟨fun j hj => ?_, fun j => ?_⟩
  · unfold z_apT
    by_cases c : L ≤ j ∧ j < L + n
    · rw [if_pos c, if_pos c]
    · rw [if_neg c, if_neg c]; exact h4 j (by omega)
  · unfold z_apT
    by_cases c : L ≤ j ∧ j < L + n
    · rw [if_pos c]
      have := (z_alF_iff (z_okB w) n 0).mp hok (0 + (j - L)) (by omega) (by omega)
      unfold z_okB at this
      rw [Bool.and_eq_true, decide_eq_true_eq, decide_eq_true_eq] at this
      exact ⟨_, by omega, rfl⟩
    · rw [if_neg c]; exact h5 j
set_option maxRecDepth 100000 in
theorem z_same_type {r : St_Re} {typed : Int32} {text : Nat → Int32} (h : z_TI r.1 typed text) (th : Int32) (w : Int64) (n : Int32) :
    (f_Ch_type r w n).1 = (f_Mo_type th typed text w n).1 ∧ z_TI (f_Ch_type r w n).2.1 (f_Mo_type th typed text w n).2.2.1 (f_Mo_type th typed text w n).2.2.2 ∧ (f_Ch_type r w n).2.2 = r.2 := by
  have h0 := h
  obtain ⟨L, h1, h2, h3, h4, h5⟩ := h
  unfold f_Ch_type f_Mo_type
  by_cases c1 : n < 1
  · rw [if_pos c1, if_pos c1]; exact ⟨rfl, h0, rfl⟩
  · rw [if_neg c1, if_neg c1]
    by_cases c2 : 8 < n
    · rw [if_pos c2, if_pos c2]; exact ⟨rfl, h0, rfl⟩
    · rw [if_neg c2, if_neg c2]
      have d1 := tnl c1
      have d2 := tnl c2
      rw [show (1 : Int32).toInt = 1 from rfl] at d1
      rw [show (8 : Int32).toInt = 8 from rfl] at d2
      obtain ⟨k, hk1, hk8, rfl⟩ : ∃ k : Nat, 1 ≤ k ∧ k ≤ 8 ∧ n = nI k := ⟨n.toInt.toNat, by omega, by omega, z_of_nonneg (by omega)⟩
      rw [h2, h3, show (100 : Int32) - nI L = nI (100 - L) from z_nI_sub (a := 100) h1 (by omega), z_nI_add]
      by_cases c3 : k ≤ 100 - L
      · rw [if_pos (by rw [z_nI_le (by omega) (by omega)]; exact c3), if_pos (by rw [show (100 : Int32) = nI 100 from rfl, z_nI_le (by omega) (by omega)]; omega), z_nI_toInt (by omega), show ((k : Int) - 0).toNat = k by omega, show (0 : Int32) = nI 0 from rfl, z_type_37 r w hk8 k 0 (by omega), z_rtype_32 th (nI L) text w hk8 k 0 (by omega)]
        cases hok : z_alF (z_okB w) 0 k
        · rw [if_neg (by decide), if_neg (by decide)]
          refine ⟨rfl, ?_, rfl⟩
          rw [h3] at h0; exact h0
        · rw [if_pos rfl, if_pos rfl]
          rw [show (0 : Int32) = nI 0 from rfl, z_type_76 r w hk8 (nI k) k 0 L r (by omega) h2 (by omega), z_rtype_80 th (nI L) text w hk8 (nI k) k 0 L text (by omega) (by omega)]
          obtain ⟨a1, a2⟩ := z_apT_TI h4 h5 hok
          exact ⟨rfl, ⟨L + k, by omega, rfl, rfl, a1, a2⟩, rfl⟩
      · rw [if_neg (by rw [z_nI_le (by omega) (by omega)]; exact c3), if_neg (by rw [show (100 : Int32) = nI 100 from rfl, z_nI_le (by omega) (by omega)]; omega)]
        refine ⟨rfl, ?_, rfl⟩
        rw [h3] at h0; exact h0
set_option maxRecDepth 100000 in
theorem z_same_cut {r : St_Re} {typed : Int32} {text : Nat → Int32} (h : z_TI r.1 typed text) (n : Int32) :
    (f_Ch_cut r n).1 = (f_Mo_cut typed n).1 ∧ z_TI (f_Ch_cut r n).2.1 (f_Mo_cut typed n).2.2 text ∧ (f_Ch_cut r n).2.2 = r.2 := by
  have h0 := h
  obtain ⟨L, h1, h2, h3, h4, h5⟩ := h
  unfold f_Ch_cut f_Mo_cut
  by_cases c1 : n < 0
  · rw [if_pos c1, if_pos c1]; exact ⟨rfl, h0, rfl⟩
  · rw [if_neg c1, if_neg c1, h2, h3]
    by_cases c2 : n ≤ nI L
    · rw [if_pos c2, if_pos c2]
      have d1 := tnl c1
      have d2 := tle c2
      rw [show (0 : Int32).toInt = 0 from rfl] at d1
      rw [z_nI_toInt (by omega)] at d2
      have e : f_Li_shorten (nI L) n = n := by
        unfold f_Li_shorten
        rw [if_neg c1, if_neg (fun h => by have := tl h; rw [z_nI_toInt (by omega)] at this; omega)]
      rw [e]
      have en : n = nI n.toInt.toNat := z_of_nonneg d1
      refine ⟨rfl, ⟨n.toInt.toNat, by omega, en, en, fun j hj => h4 j (by omega), h5⟩, rfl⟩
    · rw [if_neg c2, if_neg c2]
      refine ⟨rfl, ?_, rfl⟩
      rw [h3] at h0; exact h0
def z_WI (w : St_Li) (told : Int32) (out : Nat → Int32) : Prop := ∃ n, n ≤ 100 ∧ w.2 = nI n ∧ told = nI n ∧ ∀ j, j < n → w.1 j = out j
set_option maxRecDepth 100000 in
theorem z_same_out {w : St_Li} {told : Int32} {out : Nat → Int32} (h : z_WI w told out) (i : Int32) : f_Ch_out w i = (f_Mo_out told out i).1 := by
  obtain ⟨n, h1, h2, h3, h4⟩ := h
  unfold f_Ch_out f_Li_at f_Mo_out
  by_cases c1 : i < 0
  · rw [if_pos c1, if_pos c1]
  · rw [if_neg c1, if_neg c1, h2, h3]
    have d1 := tnl c1
    rw [show (0 : Int32).toInt = 0 from rfl] at d1
    obtain ⟨k, hk, rfl⟩ : ∃ k : Nat, k < 2147483648 ∧ i = nI k := ⟨i.toInt.toNat, by have := Int32.toInt_lt i; omega, z_of_nonneg d1⟩
    by_cases c2 : k < n
    · rw [if_neg (by rw [z_nI_le (by omega) (by omega)]; omega), if_neg (by rw [show (100 : Int32) = nI 100 from rfl, z_nI_le (by omega) (by omega)]; omega), if_pos (by rw [z_nI_lt (by omega) (by omega)]; exact c2), z_nI_clamp (by omega)]
      exact h4 k c2
    · rw [if_pos (by rw [z_nI_le (by omega) (by omega)]; omega), if_neg (by rw [z_nI_lt (by omega) (by omega)]; exact c2)]

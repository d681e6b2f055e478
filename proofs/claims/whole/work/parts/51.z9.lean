abbrev z_KR (kM kR kM' kR' : Nat → Int32) : Prop := (∀ j, ¬ (256 ≤ j ∧ j < 320) → kM' j = kM j) ∧ ∀ j, ¬ (20 ≤ j ∧ j < 25) → kR' j = kR j
set_option maxRecDepth 100000 in
theorem z_KR.rf (kM kR : Nat → Int32) : z_KR kM kR kM kR := ⟨fun _ _ => rfl, fun _ _ => rfl⟩
set_option maxRecDepth 100000 in
theorem z_KR.tr {a b c d e f : Nat → Int32} (h : z_KR a b c d) (g : z_KR c d e f) : z_KR a b e f := ⟨fun j hj => (g.1 j hj).trans (h.1 j hj), fun j hj => (g.2 j hj).trans (h.2 j hj)⟩
set_option maxRecDepth 100000 in
theorem z_KR_keep (kM kR men : Nat → Int32) (a b c d e : Int32) : z_KR kM kR (z_kept kM men 4 0) (z_keptR kR 4 a b c d e) := by
  refine ⟨fun j hj => ?_, fun j hj => ?_⟩
  · unfold z_kept; rw [if_neg (by omega)]
  · unfold z_keptR; rw [z_upd_ne _ (by omega), z_upd_ne _ (by omega), z_upd_ne _ (by omega), z_upd_ne _ (by omega), z_upd_ne _ (by omega)]
def z_wr (W : Nat → Int32) (b : Nat) (L : List Int32) : Nat → Int32 := fun j => if b ≤ j ∧ j < b + L.length then L.getD (j - b) 0 else W j
set_option maxRecDepth 100000 in
theorem z_wr_nil (W : Nat → Int32) (b : Nat) : z_wr W b [] = W := by
  funext j; unfold z_wr; rw [if_neg (by rw [List.length_nil]; omega)]
set_option maxRecDepth 100000 in
theorem z_wr_one (W : Nat → Int32) (b : Nat) (m : Int32) : upd W b m = z_wr W b [m] := by
  funext j; unfold z_wr upd
  by_cases c : j = b
  · rw [if_pos c, if_pos (by simp; omega), c, Nat.sub_self]; rfl
  · rw [if_neg c, if_neg (by simp; omega)]
set_option maxRecDepth 100000 in
theorem z_wr_app (W : Nat → Int32) (b : Nat) (L M : List Int32) : z_wr (z_wr W b L) (b + L.length) M = z_wr W b (L ++ M) := by
  funext j; unfold z_wr
  rw [List.length_append]
  by_cases c1 : b + L.length ≤ j ∧ j < b + L.length + M.length
  · rw [if_pos c1, if_pos (by omega), List.getD_eq_getElem?_getD, List.getD_eq_getElem?_getD, List.getElem?_append_right (by omega), show j - (b + L.length) = j - b - L.length by omega]
  · rw [if_neg c1]
    by_cases c2 : b ≤ j ∧ j < b + L.length
    · rw [if_pos c2, if_pos (by omega), List.getD_eq_getElem?_getD, List.getD_eq_getElem?_getD, List.getElem?_append_left (by omega)]
    · rw [if_neg c2, if_neg (by omega)]
set_option maxRecDepth 100000 in
theorem z_safe_okp {P : z_Pos} {fr to pr : Nat} (h : pr ∈ z_prs P fr to) : z_okp P fr pr := by
  unfold z_prs at h
  by_cases c : z_lastB P fr to = true
  · rw [if_pos c] at h
    simp only [z_lastB, Bool.and_eq_true, decide_eq_true_eq] at c
    right; simp at h; exact ⟨by omega, by omega, c.1⟩
  · rw [if_neg c] at h; left; simpa using h
set_option maxRecDepth 100000 in
theorem z_idx_ls {P : z_Pos} (V : z_Val P) {dp : Nat} (hd : dp ≤ 3) {n : Nat} (hn : n < 100000) : ((2048 : Int32) * nI dp + nI n).toNatClampNeg = 2048 * dp + n := by
  rw [show (2048 : Int32) = nI 2048 from rfl, z_nI_mul, z_nI_add, z_nI_clamp (by omega)]
set_option maxRecDepth 100000 in
theorem z_list_101 {P : z_Pos} (V : z_Val P) {kM0 kR0 ls0 cs0 : Nat → Int32} {dp : Nat} (hd : dp ≤ 3) {r4 r36 : Int32 → Int32 → (Nat → Int32) → (Nat → Int32) → (Nat → Int32) → ((Nat → Int32) × (Nat → Int32) × (Nat → Int32) × (Nat → Int32))} {f t : Nat} (hf : f < 64) (ht : t < 64) (ho : z_isOf (P.men f) (nI P.side) = true) (hg : z_goalsB P f t = true)
    {a2 a2' : Int32} {A B C A' B' C' : Nat → Int32} {set : Int64} {k87 : Nat} (h87 : k87 = if z_lastB P f t then 1 else 0) (k99 : Int32) (e9 : Nat) :
    ∀ c m n kM kR W, m + c = (if z_lastB P f t then 6 else 1) → (z_lastB P f t = true → 2 ≤ m) → n + c < 90000 →
    ∃ kM' kR', z_KR kM kR kM' kR' ∧ f_Mo_list_101 r4 r36 P.men (nI P.side) (nI P.rights) (z_pI P.passed) (nI P.clock) (nI P.number) kM0 kR0 ls0 cs0 (nI dp) a2 (nI f) A B C set a2' (nI t) A' B' C' (nI k87) k99 (e9 + c + 1) (nI n) (nI m) kM kR W =
      r36 (nI (n + (if z_safeB P (z_kOf P) f t then c else 0))) (nI t + 1) kM' kR' (z_wr W (2048 * dp + n) (if z_safeB P (z_kOf P) f t then (List.range' m c).map (z_mv f t) else [])) := by
  intro c
  induction c with
  | zero =>
    intro m n kM kR W h h2 hn
    refine ⟨kM, kR, z_KR.rf _ _, ?_⟩
    rw [f_Mo_list_101]; dsimp only
    have z : (if z_safeB P (z_kOf P) f t then (List.range' m 0).map (z_mv f t) else []) = [] := by split <;> rfl
    rw [z, z_wr_nil]
    have z2 : (if z_safeB P (z_kOf P) f t then 0 else 0) = 0 := by split <;> rfl
    rw [z2, Nat.add_zero]
    cases hl : z_lastB P f t
    · rw [hl] at h87 h; simp at h87 h
      rw [h87, if_pos (show nI 0 = 0 from rfl), if_pos (by rw [show m = 1 by omega]; decide)]
    · rw [hl] at h87 h; simp at h87 h
      rw [h87, if_neg (by decide), if_pos (by rw [show m = 6 by omega]; decide)]
  | succ c ih =>
    intro m n kM kR W h h2 hn
    have hpr : z_okp P f m := by
      cases hl : z_lastB P f t
      · rw [hl] at h; simp at h; left; omega
      · have := h2 hl
        rw [hl] at h; simp at h
        simp only [z_lastB, Bool.and_eq_true, decide_eq_true_eq] at hl
        right; exact ⟨this, by omega, hl.1⟩
    have LG := z_legal_ref V hf ht ho hg hpr kM kR
    have e : f_Mo_list_101 r4 r36 P.men (nI P.side) (nI P.rights) (z_pI P.passed) (nI P.clock) (nI P.number) kM0 kR0 ls0 cs0 (nI dp) a2 (nI f) A B C set a2' (nI t) A' B' C' (nI k87) k99 (e9 + (c + 1) + 1) (nI n) (nI m) kM kR W =
        (let kM1 := z_kept kM P.men 4 0
         let kR1 := z_keptR kR 4 (nI P.side) (nI P.rights) (z_pI P.passed) (nI P.clock) (nI P.number)
         if z_safeB P (z_kOf P) f t then f_Mo_list_101 r4 r36 P.men (nI P.side) (nI P.rights) (z_pI P.passed) (nI P.clock) (nI P.number) kM0 kR0 ls0 cs0 (nI dp) a2 (nI f) A B C set a2' (nI t) A' B' C' (nI k87) k99 (e9 + c + 1) (nI (n + 1)) (nI (m + 1)) kM1 kR1 (upd W (2048 * dp + n) (z_mv f t m))
         else f_Mo_list_101 r4 r36 P.men (nI P.side) (nI P.rights) (z_pI P.passed) (nI P.clock) (nI P.number) kM0 kR0 ls0 cs0 (nI dp) a2 (nI f) A B C set a2' (nI t) A' B' C' (nI k87) k99 (e9 + c + 1) (nI n) (nI (m + 1)) kM1 kR1 W) := by
      have fin : ∀ X, X = f_Mo_list_101 r4 r36 P.men (nI P.side) (nI P.rights) (z_pI P.passed) (nI P.clock) (nI P.number) kM0 kR0 ls0 cs0 (nI dp) a2 (nI f) A B C set a2' (nI t) A' B' C' (nI k87) k99 (e9 + c + 1) →
          f_Mo_list_r135 r4 r36 X P.men (nI P.side) (nI P.rights) (z_pI P.passed) (nI P.clock) (nI P.number) kM0 kR0 ls0 cs0 (nI dp) a2 (nI f) A B C set a2' (nI t) A' B' C' (nI k87) k99 (nI n) (nI m) kM kR W (f_Mo_isLegalS P.men (nI P.side) (nI P.rights) (z_pI P.passed) (nI P.clock) (nI P.number) kM kR (z_mv f t m)) =
          (if z_safeB P (z_kOf P) f t then X (nI (n + 1)) (nI (m + 1)) (z_kept kM P.men 4 0) (z_keptR kR 4 (nI P.side) (nI P.rights) (z_pI P.passed) (nI P.clock) (nI P.number)) (upd W (2048 * dp + n) (z_mv f t m)) else X (nI n) (nI (m + 1)) (z_kept kM P.men 4 0) (z_keptR kR 4 (nI P.side) (nI P.rights) (z_pI P.passed) (nI P.clock) (nI P.number)) W) := by
        intro X hX
        rw [f_Mo_list_r135, f_Mo_isLegalS, LG]
        dsimp only
        rw [show nI m + 1 = nI (m + 1) from z_nI_add m 1, show nI n + 1 = nI (n + 1) from z_nI_add n 1, z_mv_sum, z_idx_ls V hd (by omega)]
        cases z_safeB P (z_kOf P) f t
        · simp
        · simp
      rw [f_Mo_list_101]; dsimp only
      rw [z_mv_sum]
      cases hl : z_lastB P f t
      · rw [hl] at h87 h; simp at h87 h
        have hm0 : m = 0 := by omega
        have c1 : nI k87 = 0 := by rw [h87]; rfl
        have c2 : ¬ (0 : Int32) < nI m := by rw [hm0]; decide
        rw [if_pos c1, if_neg c2]
        exact fin _ rfl
      · have hm2 := h2 hl
        rw [hl] at h87 h; simp at h87 h
        have c1 : ¬ nI k87 = 0 := by rw [h87]; decide
        have c2 : ¬ (5 : Int32) < nI m := by rw [show (5 : Int32) = nI 5 from rfl, z_nI_lt (by omega) (by omega)]; omega
        rw [if_neg c1, if_neg c2]
        exact fin _ rfl
    rw [e]
    dsimp only
    cases hsf : z_safeB P (z_kOf P) f t
    · simp only [Bool.false_eq_true, if_false]
      obtain ⟨kM', kR', k1, k2⟩ := ih (m + 1) n (z_kept kM P.men 4 0) (z_keptR kR 4 (nI P.side) (nI P.rights) (z_pI P.passed) (nI P.clock) (nI P.number)) W (by omega) (fun hl => by have := h2 hl; omega) (by omega)
      rw [hsf] at k2
      simp only [Bool.false_eq_true, if_false] at k2
      exact ⟨kM', kR', (z_KR_keep kM kR P.men _ _ _ _ _).tr k1, k2⟩
    · simp only [if_true]
      obtain ⟨kM', kR', k1, k2⟩ := ih (m + 1) (n + 1) (z_kept kM P.men 4 0) (z_keptR kR 4 (nI P.side) (nI P.rights) (z_pI P.passed) (nI P.clock) (nI P.number)) (upd W (2048 * dp + n) (z_mv f t m)) (by omega) (fun hl => by have := h2 hl; omega) (by omega)
      rw [hsf] at k2
      simp only [if_true] at k2
      refine ⟨kM', kR', (z_KR_keep kM kR P.men _ _ _ _ _).tr k1, ?_⟩
      rw [k2, z_wr_one, show 2048 * dp + (n + 1) = 2048 * dp + n + [z_mv f t m].length from rfl, z_wr_app, List.range'_succ, List.map_cons, List.singleton_append, show n + 1 + c = n + (c + 1) by omega]
set_option maxRecDepth 100000 in
theorem z_list_36 {P : z_Pos} (V : z_Val P) {kM0 kR0 ls0 cs0 : Nat → Int32} {dp : Nat} (hd : dp ≤ 3) {r4 : Int32 → Int32 → (Nat → Int32) → (Nat → Int32) → (Nat → Int32) → ((Nat → Int32) × (Nat → Int32) × (Nat → Int32) × (Nat → Int32))} {f : Nat} (hf : f < 64)
    {a2 : Int32} {A B C : Nat → Int32} {set : Int64} (hset : ∀ t, t < 64 → z_tb set t = (z_isOf (P.men f) (nI P.side) && z_goalsB P f t)) :
    ∀ c t n kM kR W, t + c = 64 → n + 4 * c < 90000 →
    ∃ kM' kR', z_KR kM kR kM' kR' ∧ f_Mo_list_36 r4 P.men (nI P.side) (nI P.rights) (z_pI P.passed) (nI P.clock) (nI P.number) kM0 kR0 ls0 cs0 (nI dp) a2 (nI f) A B C set (c + 1) (nI n) (nI t) kM kR W =
      r4 (nI (n + ((List.range' t c).flatMap (z_mvTo P (z_kOf P) f)).length)) (nI f + 1) kM' kR' (z_wr W (2048 * dp + n) ((List.range' t c).flatMap (z_mvTo P (z_kOf P) f))) := by
  intro c
  induction c with
  | zero =>
    intro t n kM kR W h hn
    refine ⟨kM, kR, z_KR.rf _ _, ?_⟩
    rw [f_Mo_list_36]; dsimp only
    rw [if_pos (by rw [show t = 64 by omega]; decide)]
    show _ = r4 (nI (n + 0)) _ _ _ (z_wr W _ [])
    rw [z_wr_nil]; rfl
  | succ c ih =>
    intro t n kM kR W h hn
    have ht : t < 64 := by omega
    rw [f_Mo_list_36]; dsimp only
    rw [if_neg (z_nI_lt64 t ht), z_nI_clamp (by omega), List.range'_succ, List.flatMap_cons, List.length_append]
    have e1 : nI t + 1 = nI (t + 1) := z_nI_add1 t ht
    by_cases cb : z_tb set t = true
    · rw [if_pos ((z_tb_shr0 set ht).mpr cb)]
      rw [hset t ht, Bool.and_eq_true] at cb
      obtain ⟨ho, hg⟩ := cb
      have key : ∀ (k87 : Nat) (k99 : Int32) (r36 : Int32 → Int32 → (Nat → Int32) → (Nat → Int32) → (Nat → Int32) → ((Nat → Int32) × (Nat → Int32) × (Nat → Int32) × (Nat → Int32))), k87 = (if z_lastB P f t then 1 else 0) → k99 = (if z_lastB P f t then 2 else 0) →
          r36 = f_Mo_list_36 r4 P.men (nI P.side) (nI P.rights) (z_pI P.passed) (nI P.clock) (nI P.number) kM0 kR0 ls0 cs0 (nI dp) a2 (nI f) A B C set (c + 1) →
          ∃ kM' kR', z_KR kM kR kM' kR' ∧ f_Mo_list_99 r4 r36 P.men (nI P.side) (nI P.rights) (z_pI P.passed) (nI P.clock) (nI P.number) kM0 kR0 ls0 cs0 (nI dp) a2 (nI f) A B C set (nI n) (nI t) kM kR W (nI k87) k99 =
            r4 (nI (n + ((z_mvTo P (z_kOf P) f t).length + ((List.range' (t + 1) c).flatMap (z_mvTo P (z_kOf P) f)).length))) (nI f + 1) kM' kR' (z_wr W (2048 * dp + n) (z_mvTo P (z_kOf P) f t ++ (List.range' (t + 1) c).flatMap (z_mvTo P (z_kOf P) f))) := by
        intro k87 k99 r36 h87 h99 hr
        have pl : z_mvTo P (z_kOf P) f t = if z_safeB P (z_kOf P) f t then (List.range' (if z_lastB P f t then 2 else 0) (if z_lastB P f t then 4 else 1)).map (z_mv f t) else [] := by
          rw [z_mvTo, z_legB, ho, hg, z_prs]
          cases z_lastB P f t <;> cases z_safeB P (z_kOf P) f t <;> rfl
        have hk99 : k99 = nI (if z_lastB P f t then 2 else 0) := by rw [h99]; split <;> rfl
        obtain ⟨e9, he9⟩ : ∃ e9, 7 = e9 + (if z_lastB P f t then 4 else 1) + 1 := by
          cases z_lastB P f t
          · exact ⟨5, rfl⟩
          · exact ⟨2, rfl⟩
        rw [f_Mo_list_99, he9]
        generalize hc0 : (if z_lastB P f t then 4 else 1) = c0 at *
        have hc4 : c0 ≤ 4 := by rw [← hc0]; split <;> omega
        obtain ⟨kM1, kR1, z_g1, z_g2⟩ := z_list_101 V hd (r4 := r4) (r36 := r36) (kM0 := kM0) (kR0 := kR0) (ls0 := ls0) (cs0 := cs0) hf ht ho hg (a2 := a2) (a2' := nI n) (A := A) (B := B) (C := C) (A' := kM) (B' := kR) (C' := W) (set := set) h87 k99 e9 c0 (if z_lastB P f t then 2 else 0) n kM kR W (by rw [← hc0]; split <;> rfl) (fun hl => by rw [if_pos hl]; exact Nat.le_refl _) (by omega)
        rw [← hk99] at z_g2
        rw [z_g2]
        have len : (z_mvTo P (z_kOf P) f t).length = if z_safeB P (z_kOf P) f t then c0 else 0 := by
          rw [pl]; cases z_safeB P (z_kOf P) f t
          · rfl
          · simp
        rw [← pl, ← len, hr, e1]
        have l4 : (z_mvTo P (z_kOf P) f t).length ≤ 4 := by rw [len]; split <;> omega
        obtain ⟨kM2, kR2, z_g3, g4⟩ := ih (t + 1) (n + (z_mvTo P (z_kOf P) f t).length) kM1 kR1 (z_wr W (2048 * dp + n) (z_mvTo P (z_kOf P) f t)) (by omega) (by omega)
        refine ⟨kM2, kR2, z_g1.tr z_g3, ?_⟩
        rw [g4, show 2048 * dp + (n + (z_mvTo P (z_kOf P) f t).length) = 2048 * dp + n + (z_mvTo P (z_kOf P) f t).length by omega, z_wr_app, Nat.add_assoc]
      have k8 : ∀ (k87 : Nat) (r36 : Int32 → Int32 → (Nat → Int32) → (Nat → Int32) → (Nat → Int32) → ((Nat → Int32) × (Nat → Int32) × (Nat → Int32) × (Nat → Int32))), k87 = (if z_lastB P f t then 1 else 0) →
          r36 = f_Mo_list_36 r4 P.men (nI P.side) (nI P.rights) (z_pI P.passed) (nI P.clock) (nI P.number) kM0 kR0 ls0 cs0 (nI dp) a2 (nI f) A B C set (c + 1) →
          ∃ kM' kR', z_KR kM kR kM' kR' ∧ f_Mo_list_87 r4 r36 P.men (nI P.side) (nI P.rights) (z_pI P.passed) (nI P.clock) (nI P.number) kM0 kR0 ls0 cs0 (nI dp) a2 (nI f) A B C set (nI n) (nI t) kM kR W (nI k87) =
            r4 (nI (n + ((z_mvTo P (z_kOf P) f t).length + ((List.range' (t + 1) c).flatMap (z_mvTo P (z_kOf P) f)).length))) (nI f + 1) kM' kR' (z_wr W (2048 * dp + n) (z_mvTo P (z_kOf P) f t ++ (List.range' (t + 1) c).flatMap (z_mvTo P (z_kOf P) f))) := by
        intro k87 r36 h87 hr
        rw [f_Mo_list_87]
        cases hl : z_lastB P f t
        · rw [hl] at h87; simp at h87
          rw [if_pos (by rw [h87]; rfl)]
          exact key k87 0 r36 (by rw [hl, h87]; rfl) (by rw [hl]; rfl) hr
        · rw [hl] at h87; simp at h87
          rw [if_neg (by rw [h87]; decide)]
          exact key k87 2 r36 (by rw [hl, h87]; rfl) (by rw [hl]; rfl) hr
      rw [show f_Mo_kind (P.men f) = P.men f &&& 7 from rfl]
      have y8 : nI t < 8 ↔ t < 8 := z_nI_lt (a := t) (b := 8) (by omega) (by omega)
      have y55 : nI t ≤ 55 ↔ t ≤ 55 := z_nI_le (a := t) (b := 55) (by omega) (by omega)
      by_cases c1 : P.men f &&& 7 = 1
      · rw [if_pos c1]
        by_cases c2 : t < 8
        · rw [if_pos (y8.mpr c2), f_Mo_list_82]
          exact k8 1 _ (by rw [z_lastB]; simp [c1, c2]) rfl
        · rw [if_neg (fun g => c2 (y8.mp g))]
          by_cases c3 : t ≤ 55
          · rw [if_pos (y55.mpr c3), f_Mo_list_86]
            have c4 : ¬ 55 < t := by omega
            exact k8 0 _ (by rw [z_lastB]; simp [c2, c4]) rfl
          · rw [if_neg (fun g => c3 (y55.mp g)), f_Mo_list_82]
            have c4 : 55 < t := by omega
            exact k8 1 _ (by rw [z_lastB]; simp [c1, c4]) rfl
      · rw [if_neg c1, f_Mo_list_86]
        exact k8 0 _ (by rw [z_lastB]; simp [c1]) rfl
    · rw [if_neg (fun g => cb ((z_tb_shr0 set ht).mp g)), e1]
      have z : z_mvTo P (z_kOf P) f t = [] := by
        rw [z_mvTo, z_legB, ← hset t ht]
        cases h9 : z_tb set t
        · rfl
        · exact absurd h9 cb
      rw [z, List.nil_append, List.length_nil, Nat.zero_add]
      exact ih (t + 1) n kM kR W (by omega) (by omega)
set_option maxRecDepth 100000 in
theorem z_list_4 {P : z_Pos} (V : z_Val P) {kM0 kR0 ls0 cs0 : Nat → Int32} {dp : Nat} (hd : dp ≤ 3) : ∀ c f n kM kR W, f + c = 64 → n + 256 * c < 90000 →
    ∃ kM' kR', z_KR kM kR kM' kR' ∧ f_Mo_list_4 P.men (nI P.side) (nI P.rights) (z_pI P.passed) (nI P.clock) (nI P.number) kM0 kR0 ls0 cs0 (nI dp) (c + 1) (nI n) (nI f) kM kR W =
      (kM', kR', z_wr W (2048 * dp + n) ((List.range' f c).flatMap (z_mvFrom P (z_kOf P))), upd cs0 dp (nI (n + ((List.range' f c).flatMap (z_mvFrom P (z_kOf P))).length))) := by
  intro c
  induction c with
  | zero =>
    intro f n kM kR W h hn
    refine ⟨kM, kR, z_KR.rf _ _, ?_⟩
    rw [f_Mo_list_4]; dsimp only
    rw [if_pos (by rw [show f = 64 by omega]; decide), z_nI_clamp (by omega)]
    show _ = (kM, kR, z_wr W _ [], _)
    rw [z_wr_nil]; rfl
  | succ c ih =>
    intro f n kM kR W h hn
    have hf : f < 64 := by omega
    rw [f_Mo_list_4]; dsimp only
    rw [if_neg (z_nI_lt64 f hf), z_isOf_ref _ hf, List.range'_succ, List.flatMap_cons, List.length_append, f_Mo_list_31, f_Mo_list_31]
    have e1 : nI f + 1 = nI (f + 1) := z_nI_add1 f hf
    have mf : (List.range' 0 64).flatMap (z_mvTo P (z_kOf P) f) = z_mvFrom P (z_kOf P) f := by rw [z_mvFrom, List.range_eq_range']
    have ml : (z_mvFrom P (z_kOf P) f).length ≤ 256 := by
      rw [z_mvFrom]
      have : ∀ L : List Nat, (L.flatMap (z_mvTo P (z_kOf P) f)).length ≤ L.length * 4 := by
        intro L
        induction L with
        | nil => simp
        | cons a L ih2 =>
          rw [List.flatMap_cons, List.length_append, List.length_cons]
          have : (z_mvTo P (z_kOf P) f a).length ≤ 4 := by
            unfold z_mvTo z_prs
            split
            · rw [List.length_map]; split <;> decide
            · exact Nat.zero_le _
          omega
      have := this (List.range 64)
      rw [List.length_range] at this; omega
    have fin : ∀ (set : Int64) (A B C : Nat → Int32) (a2 : Int32), (∀ t, t < 64 → z_tb set t = (z_isOf (P.men f) (nI P.side) && z_goalsB P f t)) →
        ∃ kM' kR', z_KR kM kR kM' kR' ∧ f_Mo_list_36 (f_Mo_list_4 P.men (nI P.side) (nI P.rights) (z_pI P.passed) (nI P.clock) (nI P.number) kM0 kR0 ls0 cs0 (nI dp) (c + 1)) P.men (nI P.side) (nI P.rights) (z_pI P.passed) (nI P.clock) (nI P.number) kM0 kR0 ls0 cs0 (nI dp) a2 (nI f) A B C set 65 (nI n) 0 kM kR W =
          (kM', kR', z_wr W (2048 * dp + n) (z_mvFrom P (z_kOf P) f ++ (List.range' (f + 1) c).flatMap (z_mvFrom P (z_kOf P))), upd cs0 dp (nI (n + ((z_mvFrom P (z_kOf P) f).length + ((List.range' (f + 1) c).flatMap (z_mvFrom P (z_kOf P))).length)))) := by
      intro set A B C a2 hset
      obtain ⟨kM1, kR1, z_g1, z_g2⟩ := z_list_36 V hd (r4 := f_Mo_list_4 P.men (nI P.side) (nI P.rights) (z_pI P.passed) (nI P.clock) (nI P.number) kM0 kR0 ls0 cs0 (nI dp) (c + 1)) (kM0 := kM0) (kR0 := kR0) (ls0 := ls0) (cs0 := cs0) hf (a2 := a2) (A := A) (B := B) (C := C) hset 64 0 n kM kR W rfl (by omega)
      rw [show nI 0 = 0 from rfl] at z_g2
      rw [mf, e1] at z_g2
      obtain ⟨kM2, kR2, z_g3, g4⟩ := ih (f + 1) (n + (z_mvFrom P (z_kOf P) f).length) kM1 kR1 (z_wr W (2048 * dp + n) (z_mvFrom P (z_kOf P) f)) (by omega) (by omega)
      refine ⟨kM2, kR2, z_g1.tr z_g3, ?_⟩
      rw [z_g2, g4, show 2048 * dp + (n + (z_mvFrom P (z_kOf P) f).length) = 2048 * dp + n + (z_mvFrom P (z_kOf P) f).length by omega, z_wr_app, Nat.add_assoc]
    cases ho : z_isOf (P.men f) (nI P.side)
    · simp only [Bool.false_eq_true, if_false, if_true]
      exact fin 0 _ _ _ _ (fun t ht => by rw [z_tb_zero, ho]; rfl)
    · simp only [if_true]
      rw [if_neg (by decide)]
      exact fin _ _ _ _ _ (fun t ht => by rw [z_goals_eq V hf ht ho, ho]; rfl)
set_option maxRecDepth 100000 in
theorem z_list_eq {P : z_Pos} (V : z_Val P) {dp : Nat} (hd : dp ≤ 3) (kM kR ls cs : Nat → Int32) : ∃ kM' kR', z_KR kM kR kM' kR' ∧ f_Mo_list P.men (nI P.side) (nI P.rights) (z_pI P.passed) (nI P.clock) (nI P.number) kM kR ls cs (nI dp) =
    (kM', kR', z_wr ls (2048 * dp) (z_all P), upd cs dp (nI (z_all P).length)) := by
  obtain ⟨kM', kR', z_g1, z_g2⟩ := z_list_4 V hd (kM0 := kM) (kR0 := kR) (ls0 := ls) (cs0 := cs) 64 0 0 kM kR ls rfl (by omega)
  refine ⟨kM', kR', z_g1, ?_⟩
  have : (List.range' 0 64).flatMap (z_mvFrom P (z_kOf P)) = z_all P := by rw [z_all, z_mvAll, List.range_eq_range']
  rw [this, Nat.zero_add, Nat.add_zero] at z_g2
  exact z_g2
set_option maxRecDepth 100000 in
theorem z_tk_L {men : Nat → Int32} {sd rt ps ck nm v k : Int32} (hV : z_VP men sd rt ps ck nm) (hv : 0 ≤ v.toInt ∧ v.toInt < 64) (h : (k = 1 ∧ men v.toNatClampNeg = (1 + (8 * sd)) ∧ ¬ ((f_Mo_attacked men v) &&& (f_Mo_bit ps)) = 0) ∨ k = 0) (hk : ¬ k = 0) (hp : ¬ ps < 0) : z_LgP men sd rt ps ck nm (v + (64 * ps)) := by
  obtain ⟨P, V, rfl, rfl, rfl, rfl, rfl, rfl⟩ := hV
  rcases h with ⟨-, h1, h2⟩ | h
  · obtain ⟨j, hj, rfl⟩ := z_sqr hv.1 hv.2
    have h64 : P.passed < 64 := by
      rcases Nat.lt_or_ge P.passed 64 with g | g
      · exact g
      · exfalso; apply hp; rw [z_pI, if_neg (by omega)]; decide
    have pe : z_pI P.passed = nI P.passed := by rw [z_pI, if_pos h64]
    rw [z_nI_clamp (by omega), show (1 : Int32) + 8 * nI P.side = nI (1 + 8 * P.side) from by rw [show (8 : Int32) = nI 8 from rfl, z_nI_mul, show (1 : Int32) = nI 1 from rfl, z_nI_add]] at h1
    have hh : z_pnHit (decide (P.side = 0)) j P.passed = true := by
      cases c : z_pnHit (decide (P.side = 0)) j P.passed
      · exfalso; apply h2
        rw [pe, z_bit_eq h64, z_eq0_iff]
        intro q hq
        rw [z_tb_and, z_tb_bt h64 hq]
        by_cases e : q = P.passed
        · rw [e, z_attacked_hits _ hj h64, h1, z_hits]
          have hs := V.hs
          have hs2 : P.side = 0 ∨ P.side = 1 := by omega
          rcases hs2 with g | g
          · rw [g] at c ⊢; rw [if_pos (by decide)]; rw [show decide (nI (1 + 8 * 0) < 8) = decide ((0 : Nat) = 0) from by decide, c]; rfl
          · rw [g] at c ⊢; rw [if_pos (by decide)]; rw [show decide (nI (1 + 8 * 1) < 8) = decide ((1 : Nat) = 0) from by decide, c]; rfl
        · simp [e]
      · rfl
    obtain ⟨z_g1, z_g2⟩ := z_taker_goal V hj h64 h1 hh
    refine ⟨P, j, P.passed, 0, V, ⟨rfl, rfl, rfl, rfl, rfl, rfl⟩, hj, h64, z_g1, z_g2, .inl rfl, ?_⟩
    rw [pe, ← z_mv_sum]
    have : (4096 : Int32) * nI 0 = 0 := by decide
    rw [this, Int32.add_zero]
  · exact absurd h hk

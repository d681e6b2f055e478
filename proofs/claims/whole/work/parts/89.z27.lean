set_option maxRecDepth 100000 in
theorem z_char_c : ∀ c, c < 256 → toChar (nI c) = nI c ∧ vp_nar .char (nI c) = nI c := by decide +kernel
set_option maxRecDepth 100000 in
theorem z_add_eq (t : Nat → Int32) {L c : Nat} (hL : L < 100) (hc : c < 256) : f_Li_add t (nI L) (nI c) = (z_wr t L [nI c], nI (L + 1)) := by
  unfold f_Li_add
  rw [if_neg (by rw [show (0 : Int32) = nI 0 from rfl, z_nI_lt (by omega) (by omega)]; omega), if_neg (by rw [show (100 : Int32) = nI 100 from rfl, z_nI_le (by omega) (by omega)]; omega), z_nI_clamp (by omega), z_char_b c hc, z_wr_one, show nI L + 1 = nI (L + 1) from z_nI_add L 1]
set_option maxRecDepth 100000 in
theorem z_say_eq (t : Nat → Int32) {L c : Nat} (hL : L < 100) (hc : c < 256) : f_Mo_say (nI L) t (nI c) = (nI (L + 1), z_wr t L [nI c]) := by
  unfold f_Mo_say
  rw [z_nI_clamp (by omega), (z_char_c c hc).2, z_wr_one, show nI L + 1 = nI (L + 1) from z_nI_add L 1]
set_option maxRecDepth 100000 in
theorem z_wr_app1 (t : Nat → Int32) (L : Nat) (l : List Int32) (c : Int32) {k : Nat} (hk : k = L + l.length) : z_wr (z_wr t L l) k [c] = z_wr t L (l ++ [c]) := by
  rw [hk, z_wr_app]
set_option maxRecDepth 100000 in
theorem z_wr_app2 (t : Nat → Int32) (L : Nat) (l l' : List Int32) {k : Nat} (hk : k = L + l.length) : z_wr (z_wr t L l) k l' = z_wr t L (l ++ l') := by
  rw [hk, z_wr_app]
def z_ltN (k : Nat) : Nat := if k = 1 then 80 else if k = 2 then 78 else if k = 3 then 66 else if k = 4 then 82 else if k = 5 then 81 else if k = 6 then 75 else if k = 9 then 112 else if k = 10 then 110 else if k = 11 then 98 else if k = 12 then 114 else if k = 13 then 113 else 107
set_option maxRecDepth 100000 in
theorem z_letter_b : ∀ k, k < 16 → z_vm (nI k) = true → ¬ nI k = 0 → f_Wr_letterOf (nI k) = nI (z_ltN k) ∧ f_Mo_letter (nI k) = nI (z_ltN k) ∧ z_ltN k < 256 := by decide +kernel
def z_ltM (m : Int32) : Nat := z_ltN m.toInt.toNat
set_option maxRecDepth 100000 in
theorem z_letter_m {m : Int32} (h : z_vm m = true) (h0 : ¬ m = 0) : f_Wr_letterOf m = nI (z_ltM m) ∧ f_Mo_letter m = nI (z_ltM m) ∧ z_ltM m < 256 := by
  obtain ⟨k, hk, rfl⟩ := z_vm_nat h
  have e : (nI k).toInt.toNat = k := by rw [z_nI_toInt (by omega)]; rfl
  unfold z_ltM; rw [e]
  exact z_letter_b k hk h h0
def z_empL (e : Nat) : List Int32 := if e = 0 then [] else [nI (48 + e)]
set_option maxRecDepth 100000 in
theorem z_empL_len (e : Nat) : (z_empL e).length ≤ 1 ∧ (e = 0 → (z_empL e).length = 0) := by
  unfold z_empL
  by_cases c : e = 0
  · rw [if_pos c]; exact ⟨by decide, fun _ => rfl⟩
  · rw [if_neg c]; exact ⟨Nat.le_refl 1, fun h => absurd h c⟩
set_option maxRecDepth 100000 in
theorem z_empL_pos {e : Nat} (h : ¬ e = 0) : (z_empL e).length = 1 := by unfold z_empL; rw [if_neg h]; rfl
def z_rkL (M : Nat → Int32) (r : Nat) : Nat → Nat → Nat → List Int32
  | 0, _, e => z_empL e
  | n + 1, f, e => if M (8 * r + f) = 0 then z_rkL M r n (f + 1) (e + 1) else z_empL e ++ (nI (z_ltM (M (8 * r + f))) :: z_rkL M r n (f + 1) 0)
set_option maxRecDepth 100000 in
theorem z_rkL_len (M : Nat → Int32) (r : Nat) : ∀ n f e, (z_rkL M r n f e).length ≤ n + 1 ∧ (e = 0 → (z_rkL M r n f e).length ≤ n) := by
  intro n
  induction n with
  | zero =>
    intro f e
    rw [z_rkL]
    have := z_empL_len e
    exact ⟨by omega, fun h => by have := this.2 h; omega⟩
  | succ n ih =>
    intro f e
    rw [z_rkL]
    by_cases c : M (8 * r + f) = 0
    · rw [if_pos c]
      have := ih (f + 1) (e + 1)
      exact ⟨by omega, fun _ => by omega⟩
    · rw [if_neg c, List.length_append, List.length_cons]
      have h1 := (ih (f + 1) 0).2 rfl
      have h2 := z_empL_len e
      exact ⟨by omega, fun h => by have := h2.2 h; omega⟩
set_option maxRecDepth 100000 in
theorem z_tellEmpty_eq (t : Nat → Int32) {L e : Nat} (hL : L < 100) (he : e ≤ 8) : f_Wr_tellEmpty t (nI L) (nI e) = (z_wr t L (z_empL e), nI (L + (z_empL e).length)) := by
  unfold f_Wr_tellEmpty z_empL
  by_cases c : e = 0
  · rw [if_pos c, if_pos (by rw [c]; decide), z_wr_nil]; rfl
  · rw [if_neg c, if_neg (by rw [show (0 : Int32) = nI 0 from rfl, z_nI_le (by omega) (by omega)]; omega), show (48 : Int32) = nI 48 from rfl, z_nI_add, z_add_eq t hL (by omega), f_Wr_tellEmpty_r9]; rfl
set_option maxRecDepth 100000 in
theorem z_rank_eq {M : Nat → Int32} {b : St_Bo} (hB : z_BdM M b) {y : Nat → Int32} {yl : Int32} {r : Nat} (hr : r < 8) :
    ∀ n f e t L, f + n = 8 → e ≤ f → L + n + (z_empL e).length < 100 →
    f_Wr_tellRank_5 b y yl (nI r) (n + 1) (nI e) (nI f) (t, nI L) = (z_wr t L (z_rkL M r n f e), nI (L + (z_rkL M r n f e).length)) := by
  intro n
  induction n with
  | zero =>
    intro f e t L h he hL
    have hf : f = 8 := by omega
    subst hf
    rw [f_Wr_tellRank_5]; dsimp only
    rw [if_pos (by decide), z_tellEmpty_eq t (by omega) he, f_Wr_tellRank_r63, z_rkL]
  | succ n ih =>
    intro f e t L h he hL
    have hq : 8 * r + f < 64 := by omega
    have ei : nI f + 8 * nI r = nI (8 * r + f) := by rw [show (8 : Int32) = nI 8 from rfl, z_nI_mul, z_nI_add, Nat.add_comm]
    rw [f_Wr_tellRank_5]; dsimp only
    rw [if_neg (by rw [show (8 : Int32) = nI 8 from rfl, z_nI_le (by omega) (by omega)]; omega), ei, z_manAt_eq _ hq, hB.2 _ hq, show nI f + 1 = nI (f + 1) from z_nI_add f 1, show nI e + 1 = nI (e + 1) from z_nI_add e 1, z_rkL]
    by_cases c : M (8 * r + f) = 0
    · rw [if_pos c, if_pos c]
      have := (z_empL_len (e + 1)).1
      exact ih (f + 1) (e + 1) t L (by omega) (by omega) (by omega)
    · rw [if_neg c, if_neg c]
      have hvm : z_vm (M (8 * r + f)) = true := by rw [← hB.2 _ hq]; exact hB.1.1 _ hq
      obtain ⟨l1, _, l3⟩ := z_letter_m hvm c
      have el := z_empL_len e
      rw [z_tellEmpty_eq t (by omega) (by omega), f_Wr_tellRank_r41]
      dsimp only
      rw [ei, z_manAt_eq _ hq, hB.2 _ hq, l1, z_add_eq _ (by omega) l3, f_Wr_tellRank_r52, show (0 : Int32) = nI 0 from rfl, show nI f + 1 = nI (f + 1) from z_nI_add f 1]
      have hle := (z_empL_len 0).2 rfl
      rw [ih (f + 1) 0 _ _ (by omega) (by omega) (by omega), z_wr_app1 _ _ _ _ (by rfl), z_wr_app2 _ _ _ _ (by rw [List.length_append]; rfl)]
      rw [List.append_assoc, List.singleton_append, List.length_append, List.length_cons]
      rw [show L + (z_empL e).length + 1 + (z_rkL M r n (f + 1) 0).length = L + ((z_empL e).length + ((z_rkL M r n (f + 1) 0).length + 1)) by omega]
set_option maxRecDepth 100000 in
theorem z_pred_b : ∀ k, k < 9 → nI k + (-1) = if k = 0 then -1 else nI (k - 1) := by decide
def z_mnL (M : Nat → Int32) : Nat → List Int32
  | 0 => []
  | k + 1 => z_rkL M k 8 0 0 ++ ((if 0 < k then [nI 47] else []) ++ z_mnL M k)
set_option maxRecDepth 100000 in
theorem z_mnL_len (M : Nat → Int32) : ∀ k, (z_mnL M k).length ≤ 9 * k ∧ (0 < k → (z_mnL M k).length + 1 ≤ 9 * k) := by
  intro k
  induction k with
  | zero => exact ⟨by rw [z_mnL]; exact Nat.le_refl _, fun h => absurd h (by decide)⟩
  | succ k ih =>
    have h1 := (z_rkL_len M k 8 0 0).2 rfl
    rw [z_mnL, List.length_append, List.length_append]
    by_cases c : 0 < k
    · rw [if_pos c]
      have := ih.2 c
      rw [List.length_singleton]
      exact ⟨by omega, fun _ => by omega⟩
    · rw [if_neg c]
      have := ih.1
      rw [List.length_nil]
      exact ⟨by omega, fun _ => by omega⟩
set_option maxRecDepth 100000 in
theorem z_men_eq {M : Nat → Int32} {b : St_Bo} (hB : z_BdM M b) {y : Nat → Int32} {yl : Int32} :
    ∀ k t L e9, k ≤ 8 → L + 9 * k < 90 → f_Wr_tellMen_3 b y yl (e9 + k + 1) (if k = 0 then -1 else nI (k - 1)) (t, nI L) = (z_wr t L (z_mnL M k), nI (L + (z_mnL M k).length)) := by
  intro k
  induction k with
  | zero =>
    intro t L e9 hk hL
    rw [if_pos rfl, f_Wr_tellMen_3]; dsimp only
    rw [if_pos (by decide), z_mnL, z_wr_nil]; rfl
  | succ k ih =>
    intro t L e9 hk hL
    have hlen := (z_rkL_len M k 8 0 0).2 rfl
    have em : nI k + (-1) = if k = 0 then -1 else nI (k - 1) := z_pred_b k (by omega)
    rw [if_neg (by omega), show k + 1 - 1 = k by omega, show e9 + (k + 1) + 1 = (e9 + k + 1) + 1 by omega, f_Wr_tellMen_3]; dsimp only
    rw [if_neg (by rw [show (0 : Int32) = nI 0 from rfl, z_nI_lt (by omega) (by omega)]; omega), f_Wr_tellRank, show (0 : Int32) = nI 0 from rfl, z_rank_eq hB (show k < 8 by omega) 8 0 0 t L rfl (Nat.le_refl _) (by have := (z_empL_len 0).2 rfl; omega), f_Wr_tellMen_r10, em]
    dsimp only
    rw [z_mnL]
    by_cases c : 0 < k
    · rw [if_neg (by rw [show (0 : Int32) = nI 0 from rfl, z_nI_le (by omega) (by omega)]; omega), if_pos c, show (47 : Int32) = nI 47 from rfl, z_add_eq _ (by omega) (by decide), f_Wr_tellMen_r20, em, ih _ _ e9 (by omega) (by omega), z_wr_app1 _ _ _ _ (by rfl), z_wr_app2 _ _ _ _ (by rw [List.length_append]; rfl), List.append_assoc, List.length_append, List.length_append, List.length_singleton]
      rw [show L + (z_rkL M k 8 0 0).length + 1 + (z_mnL M k).length = L + ((z_rkL M k 8 0 0).length + (1 + (z_mnL M k).length)) by omega]
    · rw [if_pos (by rw [show (0 : Int32) = nI 0 from rfl, z_nI_le (by omega) (by omega)]; omega), if_neg c, ih _ _ e9 (by omega) (by omega), z_wr_app2 _ _ _ _ (by rfl), List.nil_append, List.length_append, Nat.add_assoc]
def z_rtL (r : Nat) : Nat → Nat → List Int32
  | 0, _ => if r = 0 then [nI 45] else []
  | n + 1, k => (if r.testBit k then [nI (z_chK k)] else []) ++ z_rtL r n (k + 1)
set_option maxRecDepth 100000 in
theorem z_rtL_len (r : Nat) : ∀ n k, (z_rtL r n k).length ≤ n + 1 := by
  intro n
  induction n with
  | zero => intro k; rw [z_rtL]; split <;> simp
  | succ n ih =>
    intro k
    rw [z_rtL, List.length_append]
    have := ih (k + 1)
    cases r.testBit k
    · simp; omega
    · simp; omega
set_option maxRecDepth 100000 in
theorem z_rt_bit0 : ∀ r, r < 16 → ∀ k, k < 4 → ((nI r >>> (nI k &&& 31)) &&& 1 = 0 ↔ r.testBit k = false) := by decide +kernel
set_option maxRecDepth 100000 in
theorem z_chK_lt : ∀ k, k < 4 → z_chK k < 256 := by decide
set_option maxRecDepth 100000 in
theorem z_rights_eq {r : Nat} (hr : r < 16) {y : Nat → Int32} {yl : Int32} : ∀ n k t L, k + n = 4 → L + n + 1 ≤ 100 →
    f_Wr_tellRights_2 y yl (nI r) (n + 1) (nI k) (t, nI L) = (z_wr t L (z_rtL r n k), nI (L + (z_rtL r n k).length)) := by
  intro n
  induction n with
  | zero =>
    intro k t L h hL
    have hk : k = 4 := by omega
    subst hk
    rw [f_Wr_tellRights_2]; dsimp only
    rw [if_pos (z_rt_ch 0 (by decide)).2.2, z_rtL]
    by_cases c : r = 0
    · rw [if_pos c, if_pos (by rw [c]; rfl), show (45 : Int32) = nI 45 from rfl, z_add_eq _ (by omega) (by decide), f_Wr_tellRights_r42]; rfl
    · rw [if_neg c, if_neg (z_nI_ne0 c (by omega)), z_wr_nil]; rfl
  | succ n ih =>
    intro k t L h hL
    have hk : k < 4 := by omega
    have rc := z_rt_ch k hk
    rw [f_Wr_tellRights_2]; dsimp only
    rw [if_neg rc.2.1, z_rtL, show nI k + 1 = nI (k + 1) from z_nI_add k 1]
    cases hb : r.testBit k
    · rw [if_pos ((z_rt_bit0 r hr k hk).mpr hb), ih (k + 1) t L (by omega) (by omega)]
      simp
    · rw [if_neg (fun hh => by rw [(z_rt_bit0 r hr k hk).mp hh] at hb; exact absurd hb (by decide)), rc.1, z_add_eq _ (by omega) (z_chK_lt k hk), f_Wr_tellRights_r26, show nI k + 1 = nI (k + 1) from z_nI_add k 1, ih (k + 1) _ _ (by omega) (by omega), z_wr_app2 _ _ _ _ (by rfl)]
      simp only [if_true, List.length_append, List.length_singleton]
      rw [Nat.add_assoc]
def z_psL (p : Nat) : List Int32 := if p < 64 then [nI (97 + p % 8), nI (49 + p / 8)] else [nI 45]
set_option maxRecDepth 100000 in
theorem z_psL_len (p : Nat) : (z_psL p).length ≤ 2 := by unfold z_psL; split <;> simp
set_option maxRecDepth 100000 in
theorem z_ps_b : ∀ p, p < 64 → nI p &&& 7 = nI (p % 8) := by decide
set_option maxRecDepth 100000 in
theorem z_passed_eq {p : Nat} {t : Nat → Int32} {L : Nat} (hL : L < 99) : f_Wr_tellPassed t (nI L) (z_pI p) = (z_wr t L (z_psL p), nI (L + (z_psL p).length)) := by
  unfold f_Wr_tellPassed z_psL z_pI
  by_cases c : p < 64
  · rw [if_pos c, if_neg (z_nI_m1 _ (by omega)), if_pos c, z_ps_b p c, show (97 : Int32) = nI 97 from rfl, z_nI_add, z_add_eq _ (by omega) (by omega), f_Wr_tellPassed_r22, z_shr3_b p c, show (49 : Int32) = nI 49 from rfl, z_nI_add]
    dsimp only
    rw [z_add_eq _ (by omega) (by omega), f_Wr_tellPassed_r32, z_wr_app1 _ _ _ _ (by rfl)]; rfl
  · rw [if_neg c, if_pos rfl, if_neg c, show (45 : Int32) = nI 45 from rfl, z_add_eq _ (by omega) (by decide), f_Wr_tellPassed_r8]; rfl
def z_nmL (v : Nat) : List Int32 :=
  if min v 999 < 10 then [nI (48 + min v 999 % 10)]
  else if min v 999 < 100 then [nI (48 + min v 999 / 10 % 10), nI (48 + min v 999 % 10)]
  else [nI (48 + min v 999 / 100 % 10), nI (48 + min v 999 / 10 % 10), nI (48 + min v 999 % 10)]
set_option maxRecDepth 100000 in
theorem z_nmL_len (v : Nat) : (z_nmL v).length ≤ 3 := by
  unfold z_nmL
  by_cases c : min v 999 < 10
  · rw [if_pos c]; exact (show 1 ≤ 3 by decide)
  · rw [if_neg c]
    by_cases d : min v 999 < 100
    · rw [if_pos d]; exact (show 2 ≤ 3 by decide)
    · rw [if_neg d]; exact Nat.le_refl 3
set_option maxRecDepth 100000 in
theorem z_number_eq {v : Nat} (hv : v < 10000) {t : Nat → Int32} {L : Nat} (hL : L < 97) : f_Wr_tellNumber t (nI L) (nI v) = (z_wr t L (z_nmL v), nI (L + (z_nmL v).length)) := by
  have em : min32 (nI v) 999 = nI (min v 999) := by
    unfold min32
    by_cases c : 999 < v
    · rw [if_pos (by rw [show (999 : Int32) = nI 999 from rfl, z_nI_lt (by omega) (by omega)]; exact c), Nat.min_eq_right (by omega)]; rfl
    · rw [if_neg (by rw [show (999 : Int32) = nI 999 from rfl, z_nI_lt (by omega) (by omega)]; exact c), Nat.min_eq_left (by omega)]
  have hu : min v 999 < 1000 := by omega
  generalize hU : min v 999 = u at em hu
  have d10 : nI u / 10 = nI (u / 10) := z_nI_div (b := 10) (by omega) (by omega) (by omega)
  have d100 : nI u / 100 = nI (u / 100) := z_nI_div (b := 100) (by omega) (by omega) (by omega)
  have m10 : nI u - nI u / 10 * 10 = nI (u % 10) := z_nI_mod (b := 10) (by omega) (by omega) (by omega)
  have m10' : nI (u / 10) - nI (u / 10) / 10 * 10 = nI (u / 10 % 10) := z_nI_mod (b := 10) (by omega) (by omega) (by omega)
  have e45 : ∀ (x y : St_Li) (L' : Nat) (t' : Nat → Int32), L' < 100 → f_Wr_tellNumber_45 t (nI L) (nI v) x (t', nI L') = (z_wr t' L' [nI (48 + u % 10)], nI (L' + 1)) := by
    intro x y L' t' h'
    rw [f_Wr_tellNumber_45, em, m10, show (48 : Int32) = nI 48 from rfl, z_nI_add]
    dsimp only
    rw [z_add_eq _ h' (by omega), f_Wr_tellNumber_r53]
  have e25 : ∀ (L' : Nat) (t' : Nat → Int32), L' < 99 → f_Wr_tellNumber_25 t (nI L) (nI v) (t', nI L') = if u < 10 then (z_wr t' L' [nI (48 + u % 10)], nI (L' + 1)) else (z_wr t' L' [nI (48 + u / 10 % 10), nI (48 + u % 10)], nI (L' + 2)) := by
    intro L' t' h'
    rw [f_Wr_tellNumber_25, em]
    by_cases c : u < 10
    · rw [if_pos (by rw [show (10 : Int32) = nI 10 from rfl, z_nI_lt (by omega) (by omega)]; exact c), if_pos c, e45 _ (t', nI L') L' t' (by omega)]
    · rw [if_neg (by rw [show (10 : Int32) = nI 10 from rfl, z_nI_lt (by omega) (by omega)]; exact c), if_neg c, d10, m10', show (48 : Int32) = nI 48 from rfl, z_nI_add]
      dsimp only
      rw [z_add_eq _ (by omega) (by omega), f_Wr_tellNumber_r42, e45 _ (t', nI L') (L' + 1) _ (by omega), z_wr_app1 _ _ _ _ (by rfl)]; rfl
  unfold f_Wr_tellNumber z_nmL
  rw [hU, em]
  by_cases c1 : u < 100
  · rw [if_pos (by rw [show (100 : Int32) = nI 100 from rfl, z_nI_lt (by omega) (by omega)]; exact c1), e25 L t (by omega)]
    by_cases c2 : u < 10
    · rw [if_pos c2, if_pos c2]; rfl
    · rw [if_neg c2, if_neg c2, if_pos c1]; rfl
  · rw [if_neg (by rw [show (100 : Int32) = nI 100 from rfl, z_nI_lt (by omega) (by omega)]; exact c1), if_neg (show ¬ u < 10 by omega), if_neg c1, d100, show (48 : Int32) = nI 48 from rfl, z_nI_add, z_add_eq _ (by omega) (by omega), f_Wr_tellNumber_r22, e25 (L + 1) _ (by omega), if_neg (show ¬ u < 10 by omega), z_wr_app2 _ _ _ _ (by rfl)]
    rw [show u / 100 % 10 = u / 100 by omega]; rfl
set_option maxRecDepth 100000 in
theorem z_rnumber_eq {v : Nat} (hv : v < 10000) {t : Nat → Int32} {L : Nat} (hL : L < 97) : f_Mo_sayNumber (nI L) t (nI v) = (nI (L + (z_nmL v).length), z_wr t L (z_nmL v)) := by
  have key : ∀ u, u < 1000 → min v 999 = u → f_Mo_sayNumber_14 (nI L) t (nI v) (nI u) = (nI (L + (z_nmL v).length), z_wr t L (z_nmL v)) := by
    intro u hu hU
    have st : ∀ (a0 : Int32) (m un L' : Nat) (t' : Nat → Int32), 0 < un → un < 1000 → L' < 100 → f_Mo_sayNumber_39 (nI L) t (nI v) (nI u) a0 (m + 1) (nI un) (nI L') t' = f_Mo_sayNumber_39 (nI L) t (nI v) (nI u) a0 m (nI (un / 10)) (nI (L' + 1)) (z_wr t' L' [nI (48 + u / un % 10)]) := by
      intro a0 m un L' t' h1 h2 h3
      rw [f_Mo_sayNumber_39]; dsimp only
      rw [if_neg (by rw [show (0 : Int32) = nI 0 from rfl, z_nI_le (by omega) (by omega)]; omega), z_nI_div (by omega) (by omega) h1]
      have hdl : u / un < 1000 := Nat.lt_of_le_of_lt (Nat.div_le_self _ _) hu
      rw [show nI (u / un) - nI (u / un) / 10 * 10 = nI (u / un % 10) from z_nI_mod (b := 10) (by omega) (by omega) (by omega), show (48 : Int32) = nI 48 from rfl, z_nI_add, (z_char_c _ (by omega)).1, z_say_eq _ h3 (by omega), f_Mo_sayNumber_r54]
      rw [show nI un / 10 = nI (un / 10) from z_nI_div (b := 10) (by omega) (by omega) (by omega)]
    have en : ∀ (a0 : Int32) (m L' : Nat) (t' : Nat → Int32), f_Mo_sayNumber_39 (nI L) t (nI v) (nI u) a0 (m + 1) (nI 0) (nI L') t' = (nI L', t') := by
      intro a0 m L' t'
      rw [f_Mo_sayNumber_39]; dsimp only
      rw [if_pos (by decide)]
    unfold f_Mo_sayNumber_14 z_nmL
    rw [hU]
    by_cases c1 : u < 10
    · rw [if_neg (by rw [show (10 : Int32) = nI 10 from rfl, z_nI_le (by omega) (by omega)]; omega), if_pos c1, f_Mo_sayNumber_38, show (1 : Int32) = nI 1 from rfl, st _ 3 1 L t (by decide) (by decide) (by omega), show 1 / 10 = 0 from rfl, en _ 2, Nat.div_one]; rfl
    · rw [if_pos (by rw [show (10 : Int32) = nI 10 from rfl, z_nI_le (by omega) (by omega)]; omega), if_neg c1]
      by_cases c2 : u < 100
      · rw [if_neg (by rw [show (100 : Int32) = nI 100 from rfl, z_nI_le (by omega) (by omega)]; omega), if_pos c2, f_Mo_sayNumber_38, show (10 : Int32) = nI 10 from rfl, st _ 3 10 L t (by decide) (by decide) (by omega), show 10 / 10 = 1 from rfl, st _ 2 1 (L + 1) _ (by decide) (by decide) (by omega), show 1 / 10 = 0 from rfl, en _ 1, Nat.div_one, z_wr_app1 _ _ _ _ (by rfl)]; rfl
      · rw [if_pos (by rw [show (100 : Int32) = nI 100 from rfl, z_nI_le (by omega) (by omega)]; omega), if_neg c2, f_Mo_sayNumber_38, show (100 : Int32) = nI 100 from rfl, st _ 3 100 L t (by decide) (by decide) (by omega), show 100 / 10 = 10 from rfl, st _ 2 10 (L + 1) _ (by decide) (by decide) (by omega), show 10 / 10 = 1 from rfl, st _ 1 1 (L + 1 + 1) _ (by decide) (by decide) (by omega), show 1 / 10 = 0 from rfl, en _ 0, Nat.div_one, z_wr_app1 _ _ _ _ (by rfl), z_wr_app2 _ _ _ _ (by rfl)]; rfl
  unfold f_Mo_sayNumber
  by_cases c : v ≤ 999
  · rw [if_pos (by rw [show (999 : Int32) = nI 999 from rfl, z_nI_le (by omega) (by omega)]; exact c)]
    exact key v (by omega) (by omega)
  · rw [if_neg (by rw [show (999 : Int32) = nI 999 from rfl, z_nI_le (by omega) (by omega)]; exact c)]
    exact key 999 (by omega) (by omega)

set_option maxRecDepth 100000 in
theorem z_w94 {th tl0 : Int32} {ou0 M : Nat → Int32} {a b c d e : Int32} {r13 : Int32 → Int32 → (Nat → Int32) → (Int32 × Int32 × Int32 × (Nat → Int32))} {x : Int32} {o : Nat → Int32} {r : Nat} (hr : r < 8) (v2 v3 t1 : Int32) (o1 : Nat → Int32) {L : Nat} (hL : L < 100) (t : Nat → Int32) : f_Mo_write_94 r13 th tl0 ou0 M a b c d e (nI r) x o v2 v3 t1 o1 (nI L) t = r13 (nI r + (-1)) (nI (L + 1)) (z_wr t L [nI (if 0 < r then 47 else 32)]) := by
  rw [f_Mo_write_94]
  by_cases c : 0 < r
  · rw [if_neg (by rw [show (0 : Int32) = nI 0 from rfl, z_nI_le (by omega) (by omega)]; omega), if_pos c, f_Mo_write_106, show (47 : Int32) = nI 47 from rfl, z_say_eq _ hL (by decide), f_Mo_write_r106]
  · rw [if_pos (by rw [show (0 : Int32) = nI 0 from rfl, z_nI_le (by omega) (by omega)]; omega), if_neg c, f_Mo_write_106, show (32 : Int32) = nI 32 from rfl, z_say_eq _ hL (by decide), f_Mo_write_r106]
set_option maxRecDepth 100000 in
theorem z_w66 {th tl0 : Int32} {ou0 M : Nat → Int32} {a b c d e : Int32} {r13 : Int32 → Int32 → (Nat → Int32) → (Int32 × Int32 × Int32 × (Nat → Int32))} {x : Int32} {o : Nat → Int32} {r : Nat} (hM : ∀ q, q < 64 → z_vm (M q) = true) {r21 : Int32 → Int32 → Int32 → (Nat → Int32) → (Int32 × Int32 × Int32 × (Nat → Int32))} {f : Nat} (hr : r < 8) (hf : f < 8) (h0 : ¬ M (8 * r + f) = 0) (v2 t1 z : Int32) (o1 : Nat → Int32) {L : Nat} (hL : L < 100) (t : Nat → Int32) :
    f_Mo_write_66 r13 r21 th tl0 ou0 M a b c d e (nI r) x o v2 (nI f) t1 o1 z (nI L) t = r21 z (nI (f + 1)) (nI (L + 1)) (z_wr t L [nI (z_ltM (M (8 * r + f)))]) := by
  have ei : ((8 : Int32) * nI r + nI f).toNatClampNeg = 8 * r + f := by rw [show (8 : Int32) = nI 8 from rfl, z_nI_mul, z_nI_add, z_nI_clamp (by omega)]
  obtain ⟨_, l2, l3⟩ := z_letter_m (hM (8 * r + f) (by omega)) h0
  rw [f_Mo_write_66, ei, l2, z_say_eq _ hL l3, f_Mo_write_r72, show nI f + 1 = nI (f + 1) from z_nI_add f 1]
set_option maxRecDepth 100000 in
theorem z_wrank_eq {th tl0 : Int32} {ou0 M : Nat → Int32} {a b c d e : Int32} {r13 : Int32 → Int32 → (Nat → Int32) → (Int32 × Int32 × Int32 × (Nat → Int32))} {x : Int32} {o : Nat → Int32} {r : Nat} (hM : ∀ q, q < 64 → z_vm (M q) = true) (hr : r < 8) :
    ∀ n f e9 t L, f + n = 8 → e9 ≤ f → L + n + (z_empL e9).length + 1 < 100 →
    f_Mo_write_21 r13 th tl0 ou0 M a b c d e (nI r) x o (n + 1) (nI e9) (nI f) (nI L) t =
      r13 (nI r + (-1)) (nI (L + (z_rkL M r n f e9).length + 1)) (z_wr t L (z_rkL M r n f e9 ++ [nI (if 0 < r then 47 else 32)])) := by
  intro n
  induction n with
  | zero =>
    intro f e9 t L h he hL
    have el1 := z_empL_pos (e := e9)
    have hf : f = 8 := by omega
    subst hf
    rw [f_Mo_write_21]; dsimp only
    rw [if_pos (by decide), z_rkL, z_empL]
    by_cases c0 : e9 = 0
    · rw [if_pos (by rw [c0]; decide), z_w94 hr _ _ _ _ (by omega), if_pos c0]; rfl
    · rw [if_neg (by rw [show (0 : Int32) = nI 0 from rfl, z_nI_le (by omega) (by omega)]; omega), show (48 : Int32) = nI 48 from rfl, z_nI_add, (z_char_c _ (by omega)).1, z_say_eq _ (by omega) (by omega), f_Mo_write_r91]
      dsimp only
      rw [z_w94 hr _ _ _ _ (by omega), if_neg c0, z_wr_app1 _ _ _ _ (by rfl)]; rfl
  | succ n ih =>
    intro f e9 t L h he hL
    have el1 := z_empL_pos (e := e9)
    have el0 := (z_empL_len 0).2 rfl
    have el2 := (z_empL_len (e9 + 1)).1
    have ei : ((8 : Int32) * nI r + nI f).toNatClampNeg = 8 * r + f := by rw [show (8 : Int32) = nI 8 from rfl, z_nI_mul, z_nI_add, z_nI_clamp (by omega)]
    rw [f_Mo_write_21]; dsimp only
    rw [if_neg (by rw [show (8 : Int32) = nI 8 from rfl, z_nI_le (by omega) (by omega)]; omega), ei, z_rkL]
    by_cases c1 : M (8 * r + f) = 0
    · rw [if_pos c1, if_pos c1, show nI f + 1 = nI (f + 1) from z_nI_add f 1, show nI e9 + 1 = nI (e9 + 1) from z_nI_add e9 1]
      exact ih (f + 1) (e9 + 1) t L (by omega) (by omega) (by omega)
    · rw [if_neg c1, if_neg c1, z_empL]
      by_cases c0 : e9 = 0
      · rw [if_pos (by rw [c0]; decide), if_pos c0, z_w66 hM hr (by omega) c1 _ _ _ _ (by omega), c0, ih (f + 1) 0 _ _ (by omega) (by omega) (by omega), z_wr_app2 _ _ _ _ (by rfl), List.nil_append, List.length_cons]
        rw [show L + 1 + (z_rkL M r n (f + 1) 0).length + 1 = L + ((z_rkL M r n (f + 1) 0).length + 1) + 1 by omega]; rfl
      · rw [if_neg (by rw [show (0 : Int32) = nI 0 from rfl, z_nI_le (by omega) (by omega)]; omega), if_neg c0, show (48 : Int32) = nI 48 from rfl, z_nI_add, (z_char_c _ (by omega)).1, z_say_eq _ (by omega) (by omega), f_Mo_write_r61]
        dsimp only
        rw [z_w66 hM hr (by omega) c1 _ _ _ _ (by omega), show (0 : Int32) = nI 0 from rfl, ih (f + 1) 0 _ _ (by omega) (by omega) (by omega), z_wr_app1 _ _ _ _ (by rfl), z_wr_app2 _ _ _ _ (by rfl)]
        rw [show (([nI (48 + e9)] ++ (nI (z_ltM (M (8 * r + f))) :: z_rkL M r n (f + 1) 0)) : List Int32).length = (z_rkL M r n (f + 1) 0).length + 2 from by simp]
        rw [show L + 1 + 1 + (z_rkL M r n (f + 1) 0).length + 1 = L + ((z_rkL M r n (f + 1) 0).length + 2) + 1 by omega]
        simp
def z_mnR (M : Nat → Int32) : Nat → List Int32
  | 0 => []
  | k + 1 => (z_rkL M k 8 0 0 ++ [nI (if 0 < k then 47 else 32)]) ++ z_mnR M k
set_option maxRecDepth 100000 in
theorem z_mnR_eq  (M : Nat → Int32) : ∀ k, 0 < k → z_mnR M k = z_mnL M k ++ [nI 32] := by
  intro k
  induction k with
  | zero => intro h; exact absurd h (by decide)
  | succ k ih =>
    intro _
    rw [z_mnR, z_mnL]
    by_cases c : 0 < k
    · rw [if_pos c, if_pos c, ih c]; simp
    · have hk : k = 0 := by omega
      subst hk
      rw [z_mnR, z_mnL]; simp
set_option maxRecDepth 100000 in
theorem z_w13 {th tl0 : Int32} {ou0 M : Nat → Int32} {a b c d e : Int32} (hM : ∀ q, q < 64 → z_vm (M q) = true) : ∀ k t L e9, k ≤ 8 → L + 9 * k < 90 → f_Mo_write_13 th tl0 ou0 M a b c d e (e9 + k + 1) (if k = 0 then -1 else nI (k - 1)) (nI L) t =
    (if a = 0 then f_Mo_write_130 th tl0 ou0 M a b c d e (-1) (nI (L + (z_mnR M k).length)) (z_wr t L (z_mnR M k)) 119 else f_Mo_write_130 th tl0 ou0 M a b c d e (-1) (nI (L + (z_mnR M k).length)) (z_wr t L (z_mnR M k)) 98) := by
  intro k
  induction k with
  | zero =>
    intro t L e9 hk hL
    rw [if_pos rfl, f_Mo_write_13]; dsimp only
    rw [if_pos (by decide), z_mnR, z_wr_nil]; rfl
  | succ k ih =>
    intro t L e9 hk hL
    have hlen := (z_rkL_len M k 8 0 0).2 rfl
    have em : nI k + (-1) = if k = 0 then -1 else nI (k - 1) := z_pred_b k (by omega)
    rw [if_neg (show ¬ k + 1 = 0 by omega), show k + 1 - 1 = k by omega, show e9 + (k + 1) + 1 = (e9 + k + 1) + 1 by omega, f_Mo_write_13]; dsimp only
    rw [if_neg (by rw [show (0 : Int32) = nI 0 from rfl, z_nI_lt (by omega) (by omega)]; omega)]
    have wk := z_wrank_eq (r13 := f_Mo_write_13 th tl0 ou0 M a b c d e (e9 + k + 1)) (th := th) (tl0 := tl0) (ou0 := ou0) (a := a) (b := b) (c := c) (d := d) (e := e) (x := nI L) (o := t) hM (show k < 8 by omega) 8 0 0 t L rfl (Nat.le_refl _) (by have := (z_empL_len 0).2 rfl; omega)
    have wk' : f_Mo_write_21 (f_Mo_write_13 th tl0 ou0 M a b c d e (e9 + k + 1)) th tl0 ou0 M a b c d e (nI k) (nI L) t 9 0 0 (nI L) t = _ := wk
    rw [wk', em, ih _ _ e9 (by omega) (by omega), z_wr_app2 _ _ _ _ (by rw [List.length_append]; rfl), z_mnR, List.length_append, List.length_append]
    rw [show L + (z_rkL M k 8 0 0).length + 1 + (z_mnR M k).length = L + ((z_rkL M k 8 0 0).length + [nI (if 0 < k then 47 else 32)].length + (z_mnR M k).length) from by rw [List.length_singleton]; omega]
set_option maxRecDepth 100000 in
theorem z_add_w (t : Nat → Int32) {l : List Int32} {c : Nat} (hl : l.length < 100) (hc : c < 256) : f_Li_add (z_wr t 0 l) (nI l.length) (nI c) = (z_wr t 0 (l ++ [nI c]), nI (l ++ [nI c]).length) := by
  rw [z_add_eq _ hl hc, z_wr_app1 _ _ _ _ (by omega), List.length_append, List.length_singleton]
set_option maxRecDepth 100000 in
theorem z_say_w (t : Nat → Int32) {l : List Int32} {c : Nat} (hl : l.length < 100) (hc : c < 256) : f_Mo_say (nI l.length) (z_wr t 0 l) (nI c) = (nI (l ++ [nI c]).length, z_wr t 0 (l ++ [nI c])) := by
  rw [z_say_eq _ hl hc, z_wr_app1 _ _ _ _ (by omega), List.length_append, List.length_singleton]
set_option maxRecDepth 100000 in
theorem z_rights_w (t : Nat → Int32) {l : List Int32} {r : Nat} (hr : r < 16) (hl : l.length + 5 ≤ 100) : f_Wr_tellRights (z_wr t 0 l) (nI l.length) (nI r) = (z_wr t 0 (l ++ z_rtL r 4 0), nI (l ++ z_rtL r 4 0).length) := by
  rw [f_Wr_tellRights, show (0 : Int32) = nI 0 from rfl, z_rights_eq hr 4 0 _ _ rfl (by omega), z_wr_app2 _ _ _ _ (by omega), List.length_append]
set_option maxRecDepth 100000 in
theorem z_passed_w (t : Nat → Int32) {l : List Int32} {p : Nat} (hl : l.length < 99) : f_Wr_tellPassed (z_wr t 0 l) (nI l.length) (z_pI p) = (z_wr t 0 (l ++ z_psL p), nI (l ++ z_psL p).length) := by
  rw [z_passed_eq hl, z_wr_app2 _ _ _ _ (by omega), List.length_append]
set_option maxRecDepth 100000 in
theorem z_number_w (t : Nat → Int32) {l : List Int32} {v : Nat} (hv : v < 10000) (hl : l.length < 97) : f_Wr_tellNumber (z_wr t 0 l) (nI l.length) (nI v) = (z_wr t 0 (l ++ z_nmL v), nI (l ++ z_nmL v).length) := by
  rw [z_number_eq hv hl, z_wr_app2 _ _ _ _ (by omega), List.length_append]
set_option maxRecDepth 100000 in
theorem z_rnumber_w (t : Nat → Int32) {l : List Int32} {v : Nat} (hv : v < 10000) (hl : l.length < 97) : f_Mo_sayNumber (nI l.length) (z_wr t 0 l) (nI v) = (nI (l ++ z_nmL v).length, z_wr t 0 (l ++ z_nmL v)) := by
  rw [z_rnumber_eq hv hl, z_wr_app2 _ _ _ _ (by omega), List.length_append]
def z_fullL (P : z_Pos) : List Int32 :=
  (((((((((z_mnL P.men 8 ++ [nI 32]) ++ [nI (if P.side = 0 then 119 else 98)]) ++ [nI 32]) ++ z_rtL P.rights 4 0) ++ [nI 32]) ++ z_psL P.passed) ++ [nI 32]) ++ z_nmL P.clock) ++ [nI 32]) ++ z_nmL P.number
set_option maxRecDepth 100000 in
theorem z_fullL_len (P : z_Pos) : (z_fullL P).length ≤ 95 := by
  have h1 := (z_mnL_len P.men 8).2 (by decide)
  have h2 := z_rtL_len P.rights 4 0
  have h3 := z_psL_len P.passed
  have h4 := z_nmL_len P.clock
  have h5 := z_nmL_len P.number
  unfold z_fullL
  simp only [List.length_append, List.length_singleton]
  omega
set_option maxRecDepth 100000 in
theorem z_tell_eq {P : z_Pos} (hs : P.side < 2) (hr : P.rights < 16) (hc : P.clock < 10000) (hn : P.number < 10000) {W : St_Po} (R : z_RelP W P) (t : Nat → Int32) {n : Nat} (hl : n ≤ 100) :
    f_Wr_tell W.1 W.2.1 W.2.2.1 W.2.2.2.1 W.2.2.2.2.1 W.2.2.2.2.2 t (nI n) = (z_wr t 0 (z_fullL P), nI (z_fullL P).length) := by
  have h1 := (z_mnL_len P.men 8).2 (by decide)
  have h2 := z_rtL_len P.rights 4 0
  have h3 := z_psL_len P.passed
  have h4 := z_nmL_len P.clock
  have h5 := z_nmL_len P.number
  have e0 : f_Li_shorten (nI n) 0 = nI 0 := by
    unfold f_Li_shorten
    rw [if_neg (by decide), if_neg (by rw [show (0 : Int32) = nI 0 from rfl, z_nI_lt (by omega) (by omega)]; omega)]; rfl
  have em : f_Wr_tellMen W.1 t (nI 0) = (z_wr t 0 (z_mnL P.men 8), nI (z_mnL P.men 8).length) := by
    have := z_men_eq R.1 (y := t) (yl := nI 0) 8 t 0 0 (Nat.le_refl _) (by decide)
    rw [show 0 + (z_mnL P.men 8).length = (z_mnL P.men 8).length from Nat.zero_add _] at this
    exact this
  have ea : ∀ {l : List Int32} {c : Nat}, l.length < 100 → c < 256 → f_Li_add (z_wr t 0 l) (nI l.length) (nI c) = (z_wr t 0 (l ++ [nI c]), nI (l ++ [nI c]).length) := fun hl hc => z_add_w t hl hc
  rw [R.2]
  dsimp only
  rw [f_Wr_tell, e0, em, f_Wr_tell_r7]
  dsimp only
  rw [show (32 : Int32) = nI 32 from rfl, ea (by omega) (by decide), f_Wr_tell_r13]
  have key : ∀ ch, ch < 256 → ch = (if P.side = 0 then 119 else 98) → f_Wr_tell_31 W.1 (nI P.side) (nI P.rights) (z_pI P.passed) (nI P.clock) (nI P.number) t (nI n) (z_wr t 0 (z_mnL P.men 8), nI (z_mnL P.men 8).length) (z_wr t 0 (z_mnL P.men 8 ++ [nI 32]), nI (z_mnL P.men 8 ++ [nI 32]).length) (nI ch) = (z_wr t 0 (z_fullL P), nI (z_fullL P).length) := by
    intro ch hch ech
    rw [f_Wr_tell_31]
    dsimp only
    rw [ea (by simp only [List.length_append, List.length_singleton]; omega) hch, f_Wr_tell_r31]
    dsimp only
    rw [show (32 : Int32) = nI 32 from rfl, ea (by simp only [List.length_append, List.length_singleton]; omega) (by decide), f_Wr_tell_r37]
    dsimp only
    rw [z_rights_w t hr (by simp only [List.length_append, List.length_singleton]; omega), f_Wr_tell_r45]
    dsimp only
    rw [show (32 : Int32) = nI 32 from rfl, ea (by simp only [List.length_append, List.length_singleton]; omega) (by decide), f_Wr_tell_r51]
    dsimp only
    rw [z_passed_w t (by simp only [List.length_append, List.length_singleton]; omega), f_Wr_tell_r59]
    dsimp only
    rw [show (32 : Int32) = nI 32 from rfl, ea (by simp only [List.length_append, List.length_singleton]; omega) (by decide), f_Wr_tell_r65]
    dsimp only
    rw [z_number_w t hc (by simp only [List.length_append, List.length_singleton]; omega), f_Wr_tell_r73]
    dsimp only
    rw [show (32 : Int32) = nI 32 from rfl, ea (by simp only [List.length_append, List.length_singleton]; omega) (by decide), f_Wr_tell_r79]
    dsimp only
    rw [z_number_w t hn (by simp only [List.length_append, List.length_singleton]; omega), f_Wr_tell_r87]
    dsimp only
    rw [ech]
    rfl
  by_cases c0 : P.side = 0
  · rw [if_pos (by rw [c0]; rfl)]; exact key 119 (by decide) (by rw [if_pos c0])
  · rw [if_neg (by rw [show P.side = 1 by omega]; decide)]; exact key 98 (by decide) (by rw [if_neg c0])
set_option maxRecDepth 100000 in
theorem z_w141 {P : z_Pos} (hr : P.rights < 16) {th tl0 : Int32} {ou0 : Nat → Int32} {a c d e v1 x : Int32} {o : Nat → Int32} {k1 : Int32} {R1 R2 : Int32 × (Nat → Int32)} :
    ∀ n k t L, k + n = 4 → L + n + 1 ≤ 100 → ∃ v x1 o1, f_Mo_write_141 th tl0 ou0 P.men a (nI P.rights) c d e v1 x o k1 R1 R2 (n + 1) (nI k) (nI L) t =
      f_Mo_write_212 th tl0 ou0 P.men a (nI P.rights) c d e v1 x o k1 R1 R2 v x1 o1 (nI (L + (z_rtL P.rights n k).length)) (z_wr t L (z_rtL P.rights n k)) := by
  intro n
  induction n with
  | zero =>
    intro k t L h hL
    have hk : k = 4 := by omega
    subst hk
    rw [f_Mo_write_141]; dsimp only
    rw [if_pos (by decide), z_rtL]
    by_cases c0 : P.rights = 0
    · rw [if_pos c0, if_pos (by rw [c0]; rfl), show (45 : Int32) = nI 45 from rfl, z_say_eq _ (by omega) (by decide), f_Mo_write_r209]
      exact ⟨_, _, _, rfl⟩
    · rw [if_neg c0, if_neg (z_nI_ne0 c0 (by omega)), z_wr_nil]
      exact ⟨_, _, _, rfl⟩
  | succ n ih =>
    intro k t L h hL
    have hk : k < 4 := by omega
    have hsay : ∀ ch : Int32, ch = nI (z_chK k) → ∃ v x1 o1, f_Mo_write_190 (f_Mo_write_141 th tl0 ou0 P.men a (nI P.rights) c d e v1 x o k1 R1 R2 (n + 1)) th tl0 ou0 P.men a (nI P.rights) c d e v1 x o k1 R1 R2 (nI k) (nI L) t ch =
        f_Mo_write_212 th tl0 ou0 P.men a (nI P.rights) c d e v1 x o k1 R1 R2 v x1 o1 (nI (L + ([nI (z_chK k)] ++ z_rtL P.rights n (k + 1)).length)) (z_wr t L ([nI (z_chK k)] ++ z_rtL P.rights n (k + 1))) := by
      intro ch ech
      obtain ⟨v, x1, o1, ev⟩ := ih (k + 1) (z_wr t L [nI (z_chK k)]) (L + 1) (by omega) (by omega)
      refine ⟨v, x1, o1, ?_⟩
      rw [f_Mo_write_190, ech, z_say_eq _ (by omega) (z_chK_lt k hk), f_Mo_write_r190, show nI k + 1 = nI (k + 1) from z_nI_add k 1]
      dsimp only
      rw [ev, z_wr_app2 _ _ _ _ (by rfl), List.length_append, List.length_singleton, Nat.add_assoc]
    rw [f_Mo_write_141]; dsimp only
    rw [if_neg (by rw [show (4 : Int32) = nI 4 from rfl, z_nI_le (by omega) (by omega)]; omega), z_rtL]
    cases hb : P.rights.testBit k
    · rw [if_neg (fun hh => by rw [(z_rt_bit P.rights hr k hk).mp hh] at hb; exact absurd hb (by decide)), show nI k + 1 = nI (k + 1) from z_nI_add k 1]
      obtain ⟨v, x1, o1, ev⟩ := ih (k + 1) t L (by omega) (by omega)
      refine ⟨v, x1, o1, ?_⟩
      rw [ev]
      simp
    · rw [if_pos ((z_rt_bit P.rights hr k hk).mpr hb)]
      simp only [if_true]
      rcases (show k = 0 ∨ k = 1 ∨ k = 2 ∨ k = 3 by omega) with hk' | hk' | hk' | hk'
      · rw [if_pos (by rw [hk']; rfl)]; exact hsay _ (by rw [hk']; rfl)
      · rw [if_neg (by rw [hk']; decide), if_pos (by rw [hk']; rfl)]; exact hsay _ (by rw [hk']; rfl)
      · rw [if_neg (by rw [hk']; decide), if_neg (by rw [hk']; decide), if_pos (by rw [hk']; rfl)]; exact hsay _ (by rw [hk']; rfl)
      · rw [if_neg (by rw [hk']; decide), if_neg (by rw [hk']; decide), if_neg (by rw [hk']; decide)]; exact hsay _ (by rw [hk']; rfl)
set_option maxRecDepth 100000 in
theorem z_ps_r : ∀ p, p < 64 → nI p - nI p / 8 * 8 = nI (p % 8) ∧ nI p / 8 = nI (p / 8) := by decide +kernel
set_option maxRecDepth 100000 in
theorem z_write_eq {P : z_Pos} (hs : P.side < 2) (hr : P.rights < 16) (hM : ∀ q, q < 64 → z_vm (P.men q) = true) (hc : P.clock < 10000) (hn : P.number < 10000) (th tl0 : Int32) (t : Nat → Int32) :
    f_Mo_write th tl0 t P.men (nI P.side) (nI P.rights) (z_pI P.passed) (nI P.clock) (nI P.number) = (nI (z_fullL P).length, 0, nI (z_fullL P).length, z_wr t 0 (z_fullL P)) := by
  have h1 := (z_mnL_len P.men 8).2 (by decide)
  have h2 := z_rtL_len P.rights 4 0
  have h3 := z_psL_len P.passed
  have h4 := z_nmL_len P.clock
  have h5 := z_nmL_len P.number
  have e13 := z_w13 (th := th) (tl0 := tl0) (ou0 := t) (a := nI P.side) (b := nI P.rights) (c := z_pI P.passed) (d := nI P.clock) (e := nI P.number) hM 8 t 0 0 (Nat.le_refl _) (by decide)
  rw [z_mnR_eq P.men 8 (by decide), show 0 + (z_mnL P.men 8 ++ [nI 32]).length = (z_mnL P.men 8 ++ [nI 32]).length from Nat.zero_add _] at e13
  have es : ∀ {l : List Int32} {c : Nat}, l.length < 100 → c < 256 → f_Mo_say (nI l.length) (z_wr t 0 l) (nI c) = (nI (l ++ [nI c]).length, z_wr t 0 (l ++ [nI c])) := fun hl hc => z_say_w t hl hc
  have key : ∀ (ch : Nat) (cc : Int32), ch < 256 → cc = nI ch → ch = (if P.side = 0 then 119 else 98) → f_Mo_write_130 th tl0 t P.men (nI P.side) (nI P.rights) (z_pI P.passed) (nI P.clock) (nI P.number) (-1) (nI (z_mnL P.men 8 ++ [nI 32]).length) (z_wr t 0 (z_mnL P.men 8 ++ [nI 32])) cc = (nI (z_fullL P).length, 0, nI (z_fullL P).length, z_wr t 0 (z_fullL P)) := by
    intro ch cc hch ecc ech
    rw [f_Mo_write_130, ecc, es (by simp only [List.length_append, List.length_singleton]; omega) hch, f_Mo_write_r130]
    dsimp only
    rw [show (32 : Int32) = nI 32 from rfl, es (by simp only [List.length_append, List.length_singleton]; omega) (by decide), f_Mo_write_r136]
    dsimp only
    rw [show (0 : Int32) = nI 0 from rfl]
    obtain ⟨v, x1, o1, ev⟩ := z_w141 (P := P) hr (th := th) (tl0 := tl0) (ou0 := t) (a := nI P.side) (c := z_pI P.passed) (d := nI P.clock) (e := nI P.number) (v1 := -1) (x := nI (z_mnL P.men 8 ++ [nI 32]).length) (o := z_wr t 0 (z_mnL P.men 8 ++ [nI 32])) (k1 := nI ch)
      (R1 := (nI ((z_mnL P.men 8 ++ [nI 32]) ++ [nI ch]).length, z_wr t 0 ((z_mnL P.men 8 ++ [nI 32]) ++ [nI ch]))) (R2 := (nI (((z_mnL P.men 8 ++ [nI 32]) ++ [nI ch]) ++ [nI 32]).length, z_wr t 0 (((z_mnL P.men 8 ++ [nI 32]) ++ [nI ch]) ++ [nI 32])))
      4 0 (z_wr t 0 (((z_mnL P.men 8 ++ [nI 32]) ++ [nI ch]) ++ [nI 32])) (((z_mnL P.men 8 ++ [nI 32]) ++ [nI ch]) ++ [nI 32]).length rfl (by simp only [List.length_append, List.length_singleton]; omega)
    rw [ev, z_wr_app2 _ _ _ _ (by omega), ← List.length_append, f_Mo_write_212, show (32 : Int32) = nI 32 from rfl, es (by simp only [List.length_append, List.length_singleton]; omega) (by decide), f_Mo_write_r215]
    dsimp only
    have tail : ∀ (R4 : Int32 × (Nat → Int32)) (x2 : Int32) (o2 : Nat → Int32), x2 = nI ((((((z_mnL P.men 8 ++ [nI 32]) ++ [nI ch]) ++ [nI 32]) ++ z_rtL P.rights 4 0) ++ [nI 32]) ++ z_psL P.passed).length → o2 = z_wr t 0 ((((((z_mnL P.men 8 ++ [nI 32]) ++ [nI ch]) ++ [nI 32]) ++ z_rtL P.rights 4 0) ++ [nI 32]) ++ z_psL P.passed) →
        ∀ v1 x o k1 R1 R2 v x1 o1 x3 o3, f_Mo_write_264 th tl0 t P.men (nI P.side) (nI P.rights) (z_pI P.passed) (nI P.clock) (nI P.number) v1 x o k1 R1 R2 v x1 o1 x3 o3 R4 x2 o2 = (nI (z_fullL P).length, 0, nI (z_fullL P).length, z_wr t 0 (z_fullL P)) := by
      intro R4 x2 o2 ex eo v1 x o k1 R1 R2 v x1 o1 x3 o3
      rw [f_Mo_write_264, ex, eo, show (32 : Int32) = nI 32 from rfl, es (by simp only [List.length_append, List.length_singleton]; omega) (by decide), f_Mo_write_r267]
      dsimp only
      rw [z_rnumber_w t hc (by simp only [List.length_append, List.length_singleton]; omega), f_Mo_write_r275]
      dsimp only
      rw [show (32 : Int32) = nI 32 from rfl, es (by simp only [List.length_append, List.length_singleton]; omega) (by decide), f_Mo_write_r281]
      dsimp only
      rw [z_rnumber_w t hn (by simp only [List.length_append, List.length_singleton]; omega), f_Mo_write_r289]
      dsimp only
      rw [ech]
      rfl
    by_cases cp : P.passed < 64
    · have ep : z_pI P.passed = nI P.passed := by unfold z_pI; rw [if_pos cp]
      have p1 := z_ps_r P.passed cp
      rw [if_pos (by rw [ep]; exact z_nI_ge' _ cp)]
      have ec : toChar (97 + (z_pI P.passed - z_pI P.passed / 8 * 8)) = nI (97 + P.passed % 8) := by
        rw [ep, p1.1, show (97 : Int32) = nI 97 from rfl, z_nI_add, (z_char_c _ (by omega)).1]
      have ec2 : toChar (49 + (z_pI P.passed / 8)) = nI (49 + P.passed / 8) := by
        rw [ep, p1.2, show (49 : Int32) = nI 49 from rfl, z_nI_add, (z_char_c _ (by omega)).1]
      rw [ec, es (by simp only [List.length_append, List.length_singleton]; omega) (by omega), f_Mo_write_r246]
      dsimp only
      rw [ec2, es (by simp only [List.length_append, List.length_singleton]; omega) (by omega), f_Mo_write_r261]
      dsimp only
      have el : ((((((z_mnL P.men 8 ++ [nI 32]) ++ [nI ch]) ++ [nI 32]) ++ z_rtL P.rights 4 0) ++ [nI 32]) ++ [nI (97 + P.passed % 8)]) ++ [nI (49 + P.passed / 8)] = (((((z_mnL P.men 8 ++ [nI 32]) ++ [nI ch]) ++ [nI 32]) ++ z_rtL P.rights 4 0) ++ [nI 32]) ++ z_psL P.passed := by
        rw [z_psL, if_pos cp, List.append_assoc]; rfl
      exact tail _ _ _ (by rw [el]) (by rw [el]) _ _ _ _ _ _ _ _ _ _ _
    · have ep : z_pI P.passed = -1 := by unfold z_pI; rw [if_neg cp]
      rw [if_neg (by rw [ep]; decide), show (45 : Int32) = nI 45 from rfl, es (by simp only [List.length_append, List.length_singleton]; omega) (by decide), f_Mo_write_r228]
      dsimp only
      have el : z_psL P.passed = [nI 45] := by rw [z_psL, if_neg cp]
      exact tail _ _ _ (by rw [el]) (by rw [el]) _ _ _ _ _ _ _ _ _ _ _
  unfold f_Mo_write
  have e13' : f_Mo_write_13 th tl0 t P.men (nI P.side) (nI P.rights) (z_pI P.passed) (nI P.clock) (nI P.number) 9 7 0 t = _ := e13
  rw [e13']
  by_cases c0 : P.side = 0
  · rw [if_pos (by rw [c0]; rfl)]; exact key 119 _ (by decide) rfl (by rw [if_pos c0])
  · rw [if_neg (by rw [show P.side = 1 by omega]; decide)]; exact key 98 _ (by decide) rfl (by rw [if_neg c0])
set_option maxRecDepth 100000 in
theorem z_wr_at (t : Nat → Int32) (l : List Int32) {j : Nat} (hj : j < l.length) : z_wr t 0 l j = l.getD j 0 := by
  have := z_wr_get (W := t) (b := 0) hj; rwa [Nat.zero_add] at this
set_option maxRecDepth 100000 in
theorem z_same_write {g : St_Ga} {men : Nat → Int32} {a b c d e pls : Int32} {pm p1 p2 p3 p4 p5 : Nat → Int32} {pt : Nat → Int64} {pl : Nat → Int32} (h : z_GI g men a b c d e pls pm p1 p2 p3 p4 p5 pt pl) {w : St_Li} {told : Int32} {out : Nat → Int32} (hw : z_WI w told out) (th : Int32) :
    (f_Ch_write w g).1 = (f_Mo_write th told out men a b c d e).1 ∧ z_WI (f_Ch_write w g).2 (f_Mo_write th told out men a b c d e).2.2.1 (f_Mo_write th told out men a b c d e).2.2.2 := by
  obtain ⟨n, Ps, hn, hg, hp, R, hv, H⟩ := h
  obtain ⟨rfl, rfl, rfl, rfl, rfl, rfl⟩ := hv
  obtain ⟨V, hcl, hnm, _⟩ := H.1 n (Nat.le_refl _)
  obtain ⟨n2, w1, w2, w3, w4⟩ := hw
  have hf := z_fullL_len (Ps n)
  rw [f_Ch_write, w2, z_tell_eq V.hs V.hr (by omega) (by omega) R w.1 w1, f_Ch_write_r11, z_write_eq V.hs V.hr V.hv (by omega) (by omega)]
  refine ⟨rfl, (z_fullL (Ps n)).length, by omega, rfl, rfl, fun j hj => ?_⟩
  dsimp only
  rw [z_wr_at _ _ hj, z_wr_at _ _ hj]

set_option maxRecDepth 100000 in
theorem z_mvFrom_28 {P : z_Pos} (V : z_Val P) {f : Nat} (hf : f < 64) : (z_mvFrom P (z_kOf P) f).length ≤ 28 := by
  cases ho : z_isOf (P.men f) (nI P.side)
  · have : z_mvFrom P (z_kOf P) f = [] := by
      rw [z_mvFrom]
      apply List.flatMap_eq_nil_iff.mpr
      intro t _
      rw [z_mvTo, z_legB, ho]; rfl
    rw [this]; exact Nat.zero_le _
  · have h := z_goals_few V hf ho
    have e : z_cF (z_tb (f_Mo_goals P.men (nI P.side) (nI P.rights) (z_pI P.passed) (nI f))) 0 64 = z_cF (z_goalsB P f) 0 64 := z_cF_congr 64 0 (fun r _ hr => z_goals_eq V hf (by omega) ho)
    rw [e] at h
    have key : ∀ n t, ((List.range' t n).flatMap (z_mvTo P (z_kOf P) f)).length ≤ z_wgt (P.men f) * z_cF (z_goalsB P f) t n := by
      intro n
      induction n with
      | zero => intro t; exact Nat.zero_le _
      | succ n ih =>
        intro t
        rw [List.range'_succ, List.flatMap_cons, List.length_append, z_cF, Nat.mul_add]
        have := ih (t + 1)
        have h1 : (z_mvTo P (z_kOf P) f t).length ≤ z_wgt (P.men f) * (if z_goalsB P f t then 1 else 0) := by
          unfold z_mvTo z_legB
          cases hg : z_goalsB P f t
          · simp
          · rw [ho]
            simp only [Bool.true_and, if_true, Nat.mul_one]
            cases z_safeB P (z_kOf P) f t
            · simp
            · simp only [if_true]
              rw [List.length_map]
              unfold z_prs z_wgt z_lastB
              by_cases c : P.men f &&& 7 = 1
              · rw [if_pos c]; split <;> decide
              · rw [if_neg c]; simp [c]
        omega
    have := key 64 0
    rw [z_mvFrom, List.range_eq_range']; omega
set_option maxRecDepth 100000 in
theorem z_all_1792 {P : z_Pos} (V : z_Val P) : (z_all P).length ≤ 1792 := by
  rw [z_all, z_mvAll]
  have : ∀ L : List Nat, (∀ a ∈ L, a < 64) → (L.flatMap (z_mvFrom P (z_kOf P))).length ≤ L.length * 28 := by
    intro L
    induction L with
    | nil => intro _; simp
    | cons a L ih =>
      intro h
      rw [List.flatMap_cons, List.length_append, List.length_cons]
      have h1 := z_mvFrom_28 V (h a List.mem_cons_self)
      have h2 := ih (fun b hb => h b (List.mem_cons_of_mem _ hb))
      omega
  have := this (List.range 64) (fun a ha => List.mem_range.mp ha)
  rw [List.length_range] at this; exact this
abbrev z_InL (men : Nat → Int32) (side rights passed clock number move : Int32) : Prop := ∃ P, z_Val P ∧ z_VPs P men side rights passed clock number ∧ move ∈ z_all P
set_option maxRecDepth 100000 in
theorem z_inL_L {men : Nat → Int32} {sd rt ps ck nm m : Int32} (h : z_InL men sd rt ps ck nm m) : z_LgP men sd rt ps ck nm m := by
  obtain ⟨P, V, hP, hm⟩ := h
  obtain ⟨fr, to, pr, hf, ht, ho, hg, hs, hpr, hp8, e, h0⟩ := z_leg_of V hm
  exact ⟨P, fr, to, pr, V, hP, hf, ht, ho, hg, hpr, e⟩
set_option maxRecDepth 100000 in
theorem z_inL_make {P : z_Pos} (V : z_Val P) {m : Int32} (hm : m ∈ z_all P) : z_Val (z_mkM P m) ∧ f_Mo_make P.men (nI P.side) (nI P.rights) (z_pI P.passed) (nI P.clock) (nI P.number) m = ((z_mkM P m).men, nI (z_mkM P m).side, nI (z_mkM P m).rights, z_pI (z_mkM P m).passed, nI (z_mkM P m).clock, nI (z_mkM P m).number) := by
  have L := z_leg_of V hm
  refine ⟨z_leg_val V L, ?_⟩
  obtain ⟨fr, to, pr, hf, ht, ho, hg, hs, hpr, hp8, e, h0⟩ := L
  rw [e, z_mkM_mv hf ht hp8]
  exact z_ref_mk V hf ht ho hg hpr
set_option maxRecDepth 100000 in
theorem z_inL_VP {men : Nat → Int32} {sd rt ps ck nm m : Int32} (h : z_InL men sd rt ps ck nm m) : z_VP (f_Mo_make men sd rt ps ck nm m).1 (f_Mo_make men sd rt ps ck nm m).2.1 (f_Mo_make men sd rt ps ck nm m).2.2.1 (f_Mo_make men sd rt ps ck nm m).2.2.2.1 (f_Mo_make men sd rt ps ck nm m).2.2.2.2.1 (f_Mo_make men sd rt ps ck nm m).2.2.2.2.2 := by
  obtain ⟨P, V, ⟨rfl, rfl, rfl, rfl, rfl, rfl⟩, hm⟩ := h
  obtain ⟨V1, e⟩ := z_inL_make V hm
  rw [e]
  exact ⟨_, V1, rfl, rfl, rfl, rfl, rfl, rfl⟩
set_option maxRecDepth 100000 in
theorem z_wr_get {W : Nat → Int32} {b : Nat} {L : List Int32} {j : Nat} (hj : j < L.length) : z_wr W b L (b + j) = L.getD j 0 := by
  unfold z_wr; rw [if_pos (by omega), show b + j - b = j by omega]
set_option maxRecDepth 100000 in
theorem z_list_cnt {men : Nat → Int32} {sd rt ps ck nm : Int32} (hV : z_VP men sd rt ps ck nm) (kM kR ls cs : Nat → Int32) {d : Int32} (hd : 0 ≤ d.toInt ∧ d.toInt ≤ 3) :
    0 ≤ ((f_Mo_list men sd rt ps ck nm kM kR ls cs d).2.2.2 d.toNatClampNeg).toInt ∧ ((f_Mo_list men sd rt ps ck nm kM kR ls cs d).2.2.2 d.toNatClampNeg).toInt ≤ 1792 := by
  obtain ⟨P, V, rfl, rfl, rfl, rfl, rfl, rfl⟩ := hV
  obtain ⟨j, hj, rfl⟩ : ∃ j : Nat, j ≤ 3 ∧ d = nI j := ⟨d.toInt.toNat, by omega, z_of_nonneg hd.1⟩
  obtain ⟨kM', kR', -, e⟩ := z_list_eq V hj kM kR ls cs
  have := z_all_1792 V
  rw [e, z_nI_clamp (by omega)]
  dsimp only
  rw [z_upd_same, z_nI_toInt (by omega)]; omega
set_option maxRecDepth 100000 in
theorem z_list_mem {men : Nat → Int32} {sd rt ps ck nm : Int32} (hV : z_VP men sd rt ps ck nm) (kM kR ls cs : Nat → Int32) {d k : Int32} (hd : 0 ≤ d.toInt ∧ d.toInt ≤ 3) (hk : 0 ≤ k.toInt) (hk2 : k.toInt < ((f_Mo_list men sd rt ps ck nm kM kR ls cs d).2.2.2 d.toNatClampNeg).toInt) :
    z_InL men sd rt ps ck nm ((f_Mo_list men sd rt ps ck nm kM kR ls cs d).2.2.1 ((2048 * d) + k).toNatClampNeg) := by
  obtain ⟨P, V, rfl, rfl, rfl, rfl, rfl, rfl⟩ := hV
  obtain ⟨j, hj, rfl⟩ : ∃ j : Nat, j ≤ 3 ∧ d = nI j := ⟨d.toInt.toNat, by omega, z_of_nonneg hd.1⟩
  obtain ⟨n, hn31, rfl⟩ : ∃ n : Nat, n < 2147483648 ∧ k = nI n := ⟨k.toInt.toNat, by have := Int32.toInt_lt k; omega, z_of_nonneg hk⟩
  obtain ⟨kM', kR', -, e⟩ := z_list_eq V hj kM kR ls cs
  have h1 := z_all_1792 V
  refine ⟨P, V, ⟨rfl, rfl, rfl, rfl, rfl, rfl⟩, ?_⟩
  rw [e, z_nI_clamp (by omega)] at hk2
  dsimp only at hk2
  rw [z_upd_same, z_nI_toInt (show (z_all P).length < 2147483648 by omega)] at hk2
  have hn : n < (z_all P).length := by
    rw [z_nI_toInt hn31] at hk2; omega
  rw [e]
  dsimp only
  rw [show (2048 : Int32) = nI 2048 from rfl, z_nI_mul, z_nI_add, z_nI_clamp (by omega), z_wr_get hn, List.getD_eq_getElem?_getD, List.getElem?_eq_getElem hn]
  exact List.getElem_mem hn

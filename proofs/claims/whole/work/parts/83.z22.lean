set_option maxRecDepth 100000 in
theorem z_manN_all (c : Nat) : z_vm (nI (z_manN c)) = true := by
  unfold z_manN
  repeat' split
  all_goals decide
set_option maxRecDepth 100000 in
theorem z_rk_vm {sg : Nat → Nat} {b : Nat} : ∀ n p f dg M y, (∀ q : Nat, z_vm (M q) = true) → z_rkS sg b n p f dg M = some y → ∀ q : Nat, z_vm (y.2 q) = true := by
  intro n
  induction n with
  | zero => intro p f dg M y _ h; cases h
  | succ n ih =>
    intro p f dg M y hM h
    rw [z_rkS] at h
    split at h
    · cases h; exact hM
    · split at h
      · split at h
        · cases h
        · exact ih _ _ _ _ _ hM h
      · split at h
        · cases h
        · refine ih _ _ _ _ _ (fun q => ?_) h
          unfold upd
          split
          · exact z_manN_all _
          · exact hM q
set_option maxRecDepth 100000 in
theorem z_mn_vm {sg : Nat → Nat} : ∀ r p M y, (∀ q : Nat, z_vm (M q) = true) → z_mnS sg r p M = some y → ∀ q : Nat, z_vm (y.2 q) = true := by
  intro r
  induction r with
  | zero => intro p M y hM h; rw [z_mnS] at h; cases h; exact hM
  | succ r ih =>
    intro p M y hM h
    rw [z_mnS] at h
    cases hr : z_rkS sg (8 * r) 9 p 0 false M with
    | none => rw [hr] at h; cases h
    | some v =>
      rw [hr] at h
      dsimp only at h
      by_cases c9 : sg v.1 = (if 0 < r then 47 else 32)
      · rw [if_pos c9] at h
        exact ih _ _ _ (z_rk_vm _ _ _ _ _ _ hM hr) h
      · rw [if_neg c9] at h; cases h
set_option maxRecDepth 100000 in
theorem z_nm_le {sg : Nat → Nat} {p : Nat} {c : Nat × Nat} (h : z_nmS sg p = some c) : c.1 ≤ 999 := by
  unfold z_nmS at h
  split at h
  · split at h
    · split at h
      · cases h
      · split at h
        · split at h
          · cases h
          · cases h; rename_i a b _ d _; simp only; omega
        · cases h; rename_i a b _ _; simp only; omega
    · cases h; rename_i a _; simp only; omega
  · cases h
set_option maxRecDepth 100000 in
theorem z_ns_bd {sg : Nat → Nat} {n p : Nat} {x : Nat × Nat} (h : z_nsS sg n p = some x) : x.1 ≤ 999 ∧ 1 ≤ x.2 ∧ x.2 ≤ 999 := by
  unfold z_nsS at h
  split at h
  · cases h1 : z_nmS sg (p + 1) with
    | none => rw [h1] at h; cases h
    | some c =>
      rw [h1] at h
      dsimp only at h
      split at h
      · cases h2 : z_nmS sg (p + 1 + c.2 + 1) with
        | none => rw [h2] at h; cases h
        | some d =>
          rw [h2] at h
          dsimp only at h
          split at h
          · cases h
          · cases h
            rename_i q
            have z1 := z_nm_le h1
            have z2 := z_nm_le h2
            exact ⟨z1, by simp only; omega, z2⟩
      · cases h
  · cases h
set_option maxRecDepth 100000 in
theorem z_ps_bd {sg : Nat → Nat} {n p : Nat} {x : Nat × Nat × Nat} (h : z_psS sg n p = some x) : x.1 ≤ 64 ∧ x.2.1 ≤ 999 ∧ 1 ≤ x.2.2 ∧ x.2.2 ≤ 999 := by
  unfold z_psS at h
  split at h
  · split at h
    · obtain ⟨y, h1, rfl⟩ := Option.map_eq_some_iff.mp h
      exact ⟨Nat.le_refl _, z_ns_bd h1⟩
    · split at h
      · obtain ⟨y, h1, rfl⟩ := Option.map_eq_some_iff.mp h
        rename_i q
        exact ⟨by simp only; omega, z_ns_bd h1⟩
      · cases h
  · cases h
set_option maxRecDepth 100000 in
theorem z_rs_bd {sg : Nat → Nat} {n p : Nat} {x : Nat × Nat × Nat × Nat} (h : z_rsS sg n p = some x) : x.1 < 16 ∧ x.2.1 ≤ 64 ∧ x.2.2.1 ≤ 999 ∧ 1 ≤ x.2.2.2 ∧ x.2.2.2 ≤ 999 := by
  unfold z_rsS at h
  split at h
  · obtain ⟨y, h1, rfl⟩ := Option.map_eq_some_iff.mp h
    exact ⟨by simp only; decide, z_ps_bd h1⟩
  · split at h
    · cases h
    · obtain ⟨y, h1, rfl⟩ := Option.map_eq_some_iff.mp h
      refine ⟨?_, z_ps_bd h1⟩
      show (z_rtS sg p).1 < 16
      unfold z_rtS
      dsimp only
      repeat' split
      all_goals omega
set_option maxRecDepth 100000 in
theorem z_rest_bd {sg : Nat → Nat} {n p : Nat} {x : Nat × Nat × Nat × Nat × Nat} (h : z_restS sg n p = some x) : x.1 < 2 ∧ x.2.1 < 16 ∧ x.2.2.1 ≤ 64 ∧ x.2.2.2.1 ≤ 999 ∧ 1 ≤ x.2.2.2.2 ∧ x.2.2.2.2 ≤ 999 := by
  unfold z_restS at h
  split at h
  · obtain ⟨y, h1, rfl⟩ := Option.map_eq_some_iff.mp h
    refine ⟨?_, z_rs_bd h1⟩
    simp only
    split <;> decide
  · cases h
set_option maxRecDepth 100000 in
theorem z_tx_bd {sg : Nat → Nat} {n : Nat} {P : z_Pos} (h : z_txS sg n = some P) : (∀ q : Nat, z_vm (P.men q) = true) ∧ P.side < 2 ∧ P.rights < 16 ∧ P.passed ≤ 64 ∧ P.clock ≤ 999 ∧ 1 ≤ P.number ∧ P.number ≤ 999 := by
  unfold z_txS at h
  cases hm : z_mnS sg 8 0 (fun _ => 0) with
  | none => rw [hm] at h; cases h
  | some q =>
    rw [hm] at h
    dsimp only at h
    cases hr : z_restS sg n q.1 with
    | none => rw [hr] at h; cases h
    | some x =>
      rw [hr] at h
      dsimp only at h
      cases h
      exact ⟨z_mn_vm _ _ _ _ (fun _ => by decide) hm, z_rest_bd hr⟩
set_option maxRecDepth 100000 in
theorem z_any_congr {f g : Nat → Bool} {n : Nat} (h : ∀ q, q < n → f q = g q) : (List.range n).any f = (List.range n).any g := by
  rw [Bool.eq_iff_iff, List.any_eq_true, List.any_eq_true]
  exact ⟨fun ⟨x, h1, h2⟩ => ⟨x, h1, by rw [← h x (List.mem_range.mp h1)]; exact h2⟩, fun ⟨x, h1, h2⟩ => ⟨x, h1, by rw [h x (List.mem_range.mp h1)]; exact h2⟩⟩
set_option maxRecDepth 100000 in
theorem z_fltN_congr {M M' : Nat → Int32} (x : Nat × Nat × Nat × Nat × Nat) (hs : x.1 < 2) (h : ∀ q, q < 64 → M q = M' q) : z_fltN (M, x) = z_fltN (M', x) := by
  have h1 : ∀ s, z_oneK M s = z_oneK M' s := fun s => by
    unfold z_oneK
    rw [z_cF_congr (p := fun q => decide (M q = nI (6 + 8 * s))) (p' := fun q => decide (M' q = nI (6 + 8 * s))) 64 0 (fun r _ hr => by rw [h r (by omega)])]
  have h2 : z_pawnE M = z_pawnE M' := z_any_congr (fun q hq => by rw [h q (by omega), h (56 + q) (by omega)])
  have h3 : ∀ s, z_chk M s = z_chk M' s := fun s => z_any_congr (fun q hq => by rw [h q hq, z_atk_congr h])
  have h4 : ∀ s, s < 2 → ∀ w, z_rtOk (M, x) s w = z_rtOk (M', x) s w := fun s hs w => by
    unfold z_rtOk
    have e1 : z_home s < 64 := by unfold z_home; omega
    have e2 : 56 * s + (if w = 0 then 7 else 0) < 64 := by split <;> omega
    show (!Nat.testBit x.2.1 (2 * s + w) || (decide (M (z_home s) = _) && decide (M _ = _))) = (!Nat.testBit x.2.1 (2 * s + w) || (decide (M' (z_home s) = _) && decide (M' _ = _)))
    rw [h _ e1, h _ e2]
  have h5 : z_psOk (M, x) = z_psOk (M', x) := by
    unfold z_psOk
    show (decide (64 ≤ x.2.2.1) || (z_fre M x.2.2.1 && decide (x.2.2.1 / 8 = if x.1 = 0 then 5 else 2) && decide (M (if x.1 = 0 then x.2.2.1 - 8 else x.2.2.1 + 8) = nI (1 + 8 * (1 - x.1))) && z_fre M (if x.1 = 0 then x.2.2.1 + 8 else x.2.2.1 - 8) && (List.range 64).any (fun q => decide (M q = nI (1 + 8 * x.1)) && z_pnHit (decide (x.1 = 0)) q x.2.2.1))) =
      (decide (64 ≤ x.2.2.1) || (z_fre M' x.2.2.1 && decide (x.2.2.1 / 8 = if x.1 = 0 then 5 else 2) && decide (M' (if x.1 = 0 then x.2.2.1 - 8 else x.2.2.1 + 8) = nI (1 + 8 * (1 - x.1))) && z_fre M' (if x.1 = 0 then x.2.2.1 + 8 else x.2.2.1 - 8) && (List.range 64).any (fun q => decide (M' q = nI (1 + 8 * x.1)) && z_pnHit (decide (x.1 = 0)) q x.2.2.1)))
    by_cases c : 64 ≤ x.2.2.1
    · rw [decide_eq_true c]; rfl
    · by_cases c2 : x.2.2.1 / 8 = if x.1 = 0 then 5 else 2
      · have e1 : (if x.1 = 0 then x.2.2.1 - 8 else x.2.2.1 + 8) < 64 := by split at c2 <;> (split <;> omega)
        have e2 : (if x.1 = 0 then x.2.2.1 + 8 else x.2.2.1 - 8) < 64 := by split at c2 <;> (split <;> omega)
        unfold z_fre
        rw [h _ e1, h _ e2, h _ (by omega : x.2.2.1 < 64), z_any_congr (fun q hq => by rw [h q hq])]
      · rw [decide_eq_false c2]
        simp
  unfold z_fltN
  show (if (!(z_oneK M 0 && z_oneK M 1)) = true then 2 else if z_pawnE M = true then 3 else if z_chk M x.1 = true then 4 else if (!(z_rtOk (M, x) 0 0 && z_rtOk (M, x) 0 1 && z_rtOk (M, x) 1 0 && z_rtOk (M, x) 1 1)) = true then 5 else if (!z_psOk (M, x)) = true then 6 else 0) =
    (if (!(z_oneK M' 0 && z_oneK M' 1)) = true then 2 else if z_pawnE M' = true then 3 else if z_chk M' x.1 = true then 4 else if (!(z_rtOk (M', x) 0 0 && z_rtOk (M', x) 0 1 && z_rtOk (M', x) 1 0 && z_rtOk (M', x) 1 1)) = true then 5 else if (!z_psOk (M', x)) = true then 6 else 0)
  rw [h1, h1, h2, h3, h4 0 (by decide), h4 0 (by decide), h4 1 (by decide), h4 1 (by decide), h5]
set_option maxRecDepth 100000 in
theorem z_flt_le (P : z_Pos) : z_fltN P ≤ 6 := by
  unfold z_fltN
  repeat' split
  all_goals decide
set_option maxRecDepth 100000 in
theorem z_fl_VP {typed : Int32} {text men : Nat → Int32} {a b d e f : Int32} (h : z_TXP typed text) (hc : (f_Mo_fault typed text men a b d e f).1 ≤ 0) :
    z_VP (f_Mo_fault typed text men a b d e f).2.1 (f_Mo_fault typed text men a b d e f).2.2.1 (f_Mo_fault typed text men a b d e f).2.2.2.1 (f_Mo_fault typed text men a b d e f).2.2.2.2.1 (f_Mo_fault typed text men a b d e f).2.2.2.2.2.1 (f_Mo_fault typed text men a b d e f).2.2.2.2.2.2 := by
  obtain ⟨n, sg, hn, rfl, hsg, -⟩ := h
  obtain ⟨W, -, w⟩ := z_fault_eq hn hsg men a b d e f
  cases ht : z_txS sg n with
  | none =>
    rw [ht] at w
    obtain ⟨s, r, p, c, k, e9⟩ := w
    rw [e9] at hc
    exact absurd (show (1 : Int32) ≤ 0 from hc) (by decide)
  | some P =>
    rw [ht] at w
    obtain ⟨w1, w2, w3, w4, e9⟩ := w
    rw [e9] at hc ⊢
    have h0 : z_fltN (W, P.2) = 0 := by
      have q := z_flt_le (W, P.2)
      have hc' : nI (z_fltN (W, P.2)) ≤ nI 0 := hc
      rw [z_nI_le (by omega) (by omega)] at hc'
      omega
    obtain ⟨v, -⟩ := z_tx_bd ht
    exact ⟨(W, P.2), z_flt_val (P := (W, P.2)) w1 w2 w3 (fun q hq => by show z_vm (W q) = true; rw [w4 q hq]; exact v q) h0, rfl, rfl, rfl, rfl, rfl, rfl⟩

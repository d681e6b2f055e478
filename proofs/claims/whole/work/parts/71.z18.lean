def z_manN (c : Nat) : Nat := if c = 80 then 1 else if c = 78 then 2 else if c = 66 then 3 else if c = 82 then 4 else if c = 81 then 5 else if c = 75 then 6 else if c = 112 then 9 else if c = 110 then 10 else if c = 98 then 11 else if c = 114 then 12 else if c = 113 then 13 else if c = 107 then 14 else 0
set_option maxRecDepth 100000 in
theorem z_manOf_eq : ∀ c, c < 128 → f_Mo_manOf (nI c) = nI (z_manN c) := by decide +kernel
set_option maxRecDepth 100000 in
theorem z_manN_vm : ∀ c, c < 128 → z_vm (nI (z_manN c)) = true ∧ z_manN c < 16 := by decide +kernel
def z_rkS (sg : Nat → Nat) (b : Nat) : Nat → Nat → Nat → Bool → (Nat → Int32) → Option (Nat × (Nat → Int32))
  | 0, _, _, _, _ => none
  | n + 1, p, f, dg, M =>
    if 8 ≤ f then some (p, M)
    else if 49 ≤ sg p ∧ sg p ≤ 56 then (if dg = true ∨ 8 < f + (sg p - 48) then none else z_rkS sg b n (p + 1) (f + (sg p - 48)) true M)
    else if z_manN (sg p) = 0 then none else z_rkS sg b n (p + 1) (f + 1) false (upd M (b + f) (nI (z_manN (sg p))))
def z_mnS (sg : Nat → Nat) : Nat → Nat → (Nat → Int32) → Option (Nat × (Nat → Int32))
  | 0, p, M => some (p, M)
  | r + 1, p, M => match z_rkS sg (8 * r) 9 p 0 false M with
    | none => none
    | some q => if sg q.1 = (if 0 < r then 47 else 32) then z_mnS sg r (q.1 + 1) q.2 else none
abbrev z_SgOk (typed : Int32) (text : Nat → Int32) (sg : Nat → Nat) : Prop := ∀ p : Nat, p < 200 → f_Mo_sign typed text (nI p) = nI (sg p) ∧ sg p < 128
set_option maxRecDepth 100000 in
theorem z_rkS_pos {sg : Nat → Nat} {b : Nat} : ∀ n p f dg M q, z_rkS sg b n p f dg M = some q → p ≤ q.1 ∧ q.1 ≤ p + n := by
  intro n
  induction n with
  | zero => intro p f dg M q h; cases h
  | succ n ih =>
    intro p f dg M q h
    rw [z_rkS] at h
    split at h
    · cases h; exact ⟨Nat.le_refl _, by omega⟩
    · split at h
      · split at h
        · cases h
        · have := ih _ _ _ _ _ h; omega
      · split at h
        · cases h
        · have := ih _ _ _ _ _ h; omega
abbrev z_Rd (men M : Nat → Int32) (r f : Nat) : Prop := ∀ q, q < 64 → (r < q / 8 ∨ (q / 8 = r ∧ q % 8 < f)) → men q = M q
set_option maxRecDepth 100000 in
theorem z_zero_66 {typed : Int32} {text : Nat → Int32} {sg : Nat → Nat} (hsg : z_SgOk typed text sg) {r5 : Int32 → Int32 → (Nat → Int32) → (Int32 × (Nat → Int32))} {r14 : Int32 → Int32 → Int32 → (Nat → Int32) → (Int32 × (Nat → Int32))} {men0 A B : Nat → Int32} {x v4 : Int32} {p r f : Nat} (hp : p < 200) (hr : r < 8) (hf : f < 8) (hc : 49 ≤ sg p ∧ sg p ≤ 56) (h8 : f + (sg p - 48) ≤ 8) :
    ∀ c k W e9, k + c = sg p - 48 → f_Mo_readMen_66 r5 r14 typed text men0 x (nI r) A (nI p) (nI f) v4 B (e9 + c + 1) (nI k) W =
      r14 (nI (p + 1)) (nI (f + (sg p - 48))) 1 (fun j => if 8 * r + f + k ≤ j ∧ j < 8 * r + f + (sg p - 48) then 0 else W j) := by
  have s1 := hsg p hp
  have d1 : nI (sg p) - 48 = nI (sg p - 48) := z_nI_sub (b := 48) (by omega) (by omega)
  have d2 : nI f + nI (sg p) - 48 = nI (f + (sg p - 48)) := by
    rw [z_nI_add, show (48 : Int32) = nI 48 from rfl, z_nI_sub (by omega) (by omega)]; congr 1; omega
  intro c
  induction c with
  | zero =>
    intro k W e9 h
    rw [f_Mo_readMen_66]; dsimp only
    rw [s1.1, d1, d2, if_pos (by rw [z_nI_le (by omega) (by omega)]; omega), show nI p + 1 = nI (p + 1) from z_nI_add p 1]
    congr 1
    funext j; rw [if_neg (by omega)]
  | succ c ih =>
    intro k W e9 h
    rw [f_Mo_readMen_66]; dsimp only
    have ix : ((8 : Int32) * nI r + nI f + nI k).toNatClampNeg = 8 * r + f + k := by
      rw [show (8 : Int32) = nI 8 from rfl, z_nI_mul, z_nI_add, z_nI_add, z_nI_clamp (by omega)]
    rw [s1.1, d1, if_neg (by rw [z_nI_le (by omega) (by omega)]; omega), ix, show nI k + 1 = nI (k + 1) from z_nI_add k 1, show e9 + (c + 1) = e9 + c + 1 from rfl, ih (k + 1) _ e9 (by omega)]
    congr 1
    funext j
    unfold upd
    by_cases c1 : j = 8 * r + f + k
    · rw [if_neg (by omega), if_pos c1, if_pos (by omega)]
    · by_cases c2 : 8 * r + f + k ≤ j ∧ j < 8 * r + f + (sg p - 48)
      · rw [if_pos (by omega), if_pos c2]
      · rw [if_neg (by omega), if_neg c1, if_neg c2]
set_option maxRecDepth 100000 in
theorem z_men_14 {typed : Int32} {text : Nat → Int32} {sg : Nat → Nat} (hsg : z_SgOk typed text sg) {r5 : Int32 → Int32 → (Nat → Int32) → (Int32 × (Nat → Int32))} {men0 A : Nat → Int32} {x : Int32} {r : Nat} (hr : r < 8) :
    ∀ n p f (dg : Bool) W M, p + n < 200 → f ≤ 8 → z_Rd W M r f → (∀ q, q < 64 → q / 8 < r ∨ (q / 8 = r ∧ f ≤ q % 8) → M q = 0) →
    ∃ W' : Nat → Int32, (∀ j, 64 ≤ j → W' j = W j) ∧
      match z_rkS sg (8 * r) n p f dg M with
      | none => n ≤ 8 - f ∨ f_Mo_readMen_14 r5 typed text men0 x (nI r) A n (nI p) (nI f) (if dg then 1 else 0) W = (-1, W')
      | some q => z_Rd W' q.2 r 8 ∧ (∀ i, i < 64 → i / 8 < r → q.2 i = 0) ∧ f_Mo_readMen_14 r5 typed text men0 x (nI r) A n (nI p) (nI f) (if dg then 1 else 0) W = (if sg q.1 = (if 0 < r then 47 else 32) then r5 (nI (q.1 + 1)) (nI r + (-1)) W' else (-1, W')) := by
  intro n
  induction n with
  | zero => intro p f dg W M hp hf hR hM; exact ⟨W, fun _ _ => rfl, .inl (by omega)⟩
  | succ n ih =>
    intro p f dg W M hp hf hR hM
    have s1 := hsg p (by omega)
    rw [z_rkS]
    by_cases c8 : 8 ≤ f
    · have f8 : f = 8 := by omega
      refine ⟨W, fun _ _ => rfl, ?_⟩
      rw [if_pos c8]
      dsimp only
      refine ⟨by rw [f8] at hR; exact hR, fun i hi h => hM i hi (.inl h), ?_⟩
      rw [f_Mo_readMen_14]; dsimp only
      rw [if_pos (by rw [f8]; decide), f_Mo_readMen_163, f_Mo_readMen_163, s1.1, show nI p + 1 = nI (p + 1) from z_nI_add p 1]
      by_cases r0 : 0 < r
      · have : ¬ nI r ≤ 0 := by rw [show (0 : Int32) = nI 0 from rfl, z_nI_le (by omega) (by omega)]; omega
        rw [if_neg this, if_pos r0]
        have e : nI (sg p) = 47 ↔ sg p = 47 := z_nI_inj (b := 47) (by omega) (by omega)
        by_cases c : sg p = 47
        · rw [if_pos (e.mpr c), if_pos c]
        · rw [if_neg (fun g => c (e.mp g)), if_neg c]
      · have : nI r ≤ 0 := by rw [show (0 : Int32) = nI 0 from rfl, z_nI_le (by omega) (by omega)]; omega
        rw [if_pos this, if_neg r0]
        have e : nI (sg p) = 32 ↔ sg p = 32 := z_nI_inj (b := 32) (by omega) (by omega)
        by_cases c : sg p = 32
        · rw [if_pos (e.mpr c), if_pos c]
        · rw [if_neg (fun g => c (e.mp g)), if_neg c]
    · rw [if_neg c8]
      have n8 : ¬ (8 : Int32) ≤ nI f := by rw [show (8 : Int32) = nI 8 from rfl, z_nI_le (by omega) (by omega)]; omega
      have l49 : nI (sg p) < 49 ↔ sg p < 49 := z_nI_lt (b := 49) (by omega) (by omega)
      have l56 : (56 : Int32) < nI (sg p) ↔ 56 < sg p := z_nI_lt (a := 56) (by omega) (by omega)
      by_cases cd : 49 ≤ sg p ∧ sg p ≤ 56
      · rw [if_pos cd]
        have d2 : nI f + nI (sg p) - 48 = nI (f + (sg p - 48)) := by
          rw [z_nI_add, show (48 : Int32) = nI 48 from rfl, z_nI_sub (by omega) (by omega)]; congr 1; omega
        have le8 : nI (f + (sg p - 48)) ≤ 8 ↔ f + (sg p - 48) ≤ 8 := z_nI_le (b := 8) (by omega) (by omega)
        cases hdg : dg
        · by_cases c9 : 8 < f + (sg p - 48)
          · rw [if_pos (.inr c9)]
            refine ⟨W, fun _ _ => rfl, .inr ?_⟩
            rw [f_Mo_readMen_14]; dsimp only
            rw [if_neg n8, s1.1, if_neg (by rw [l49]; omega), if_neg (by rw [l56]; omega), d2]
            simp only [Bool.false_eq_true, if_false, if_true]
            rw [if_neg (by rw [le8]; omega)]
          · rw [if_neg (by simp; omega)]
            obtain ⟨e9, he9⟩ : ∃ e9, 9 = e9 + (sg p - 48) + 1 := ⟨8 - (sg p - 48), by omega⟩
            have z := z_zero_66 hsg (r5 := r5) (r14 := f_Mo_readMen_14 r5 typed text men0 x (nI r) A n) (men0 := men0) (A := A) (B := W) (x := x) (v4 := 0) (p := p) (by omega) hr (show f < 8 by omega) cd (by omega) (sg p - 48) 0 W e9 (by omega)
            rw [← he9, show nI 0 = 0 from rfl] at z
            obtain ⟨W', w1, w2⟩ := ih (p + 1) (f + (sg p - 48)) true (fun j => if 8 * r + f + 0 ≤ j ∧ j < 8 * r + f + (sg p - 48) then 0 else W j) M (by omega) (by omega)
              (fun q hq h => by
                by_cases g : 8 * r + f + 0 ≤ q ∧ q < 8 * r + f + (sg p - 48)
                · dsimp only; rw [if_pos g]; exact (hM q hq (.inr (by omega))).symm
                · dsimp only; rw [if_neg g]; exact hR q hq (by omega))
              (fun q hq h => hM q hq (by omega))
            refine ⟨W', fun j hj => (w1 j hj).trans (if_neg (by omega)), ?_⟩
            have st : f_Mo_readMen_14 r5 typed text men0 x (nI r) A (n + 1) (nI p) (nI f) (if false = true then 1 else 0) W = f_Mo_readMen_14 r5 typed text men0 x (nI r) A n (nI (p + 1)) (nI (f + (sg p - 48))) 1 (fun j => if 8 * r + f + 0 ≤ j ∧ j < 8 * r + f + (sg p - 48) then 0 else W j) := by
              rw [f_Mo_readMen_14]; dsimp only
              rw [if_neg n8, s1.1, if_neg (by rw [l49]; omega), if_neg (by rw [l56]; omega), d2]
              simp only [Bool.false_eq_true, if_false, if_true]
              rw [if_pos (by rw [le8]; omega)]; exact z
            rw [st]
            simp only [if_true] at w2
            cases hk : z_rkS sg (8 * r) n (p + 1) (f + (sg p - 48)) true M with
            | none => rw [hk] at w2; dsimp only at w2 ⊢; rcases w2 with g | g; exact .inl (by omega); exact .inr g
            | some q => rw [hk] at w2; exact w2
        · rw [if_pos (.inl rfl)]
          refine ⟨W, fun _ _ => rfl, .inr ?_⟩
          rw [f_Mo_readMen_14]; dsimp only
          rw [if_neg n8, s1.1, if_neg (by rw [l49]; omega), if_neg (by rw [l56]; omega)]
          simp only [if_true]
          rw [if_neg (by decide)]
      · rw [if_neg cd]
        have to111 : f_Mo_readMen_14 r5 typed text men0 x (nI r) A (n + 1) (nI p) (nI f) (if dg then 1 else 0) W = f_Mo_readMen_111 r5 (f_Mo_readMen_14 r5 typed text men0 x (nI r) A n) typed text men0 x (nI r) A (nI p) (nI f) (if dg then 1 else 0) W := by
          rw [f_Mo_readMen_14]; dsimp only
          rw [if_neg n8, s1.1]
          by_cases c1 : sg p < 49
          · rw [if_pos (l49.mpr c1)]
          · rw [if_neg (fun g => c1 (l49.mp g)), if_pos (l56.mpr (by omega))]
        have mo := z_manOf_eq (sg p) s1.2
        have z_mv := z_manN_vm (sg p) s1.2
        have m0 : nI (z_manN (sg p)) = 0 ↔ z_manN (sg p) = 0 := z_nI_inj (b := 0) (by omega) (by omega)
        rw [to111, f_Mo_readMen_111, s1.1, mo]
        by_cases c0 : z_manN (sg p) = 0
        · rw [if_pos c0]
          refine ⟨W, fun _ _ => rfl, .inr ?_⟩
          rw [if_pos (m0.mpr c0)]
        · rw [if_neg c0, if_neg (fun g => c0 (m0.mp g))]
          have ix : ((8 : Int32) * nI r + nI f).toNatClampNeg = 8 * r + f := by
            rw [show (8 : Int32) = nI 8 from rfl, z_nI_mul, z_nI_add, z_nI_clamp (by omega)]
          rw [ix, show nI p + 1 = nI (p + 1) from z_nI_add p 1, show nI f + 1 = nI (f + 1) from z_nI_add f 1]
          obtain ⟨W', w1, w2⟩ := ih (p + 1) (f + 1) false (upd W (8 * r + f) (nI (z_manN (sg p)))) (upd M (8 * r + f) (nI (z_manN (sg p)))) (by omega) (by omega)
            (fun q hq h => by
              by_cases g : q = 8 * r + f
              · rw [g, z_upd_same, z_upd_same]
              · rw [z_upd_ne _ g, z_upd_ne _ g]; exact hR q hq (by omega))
            (fun q hq h => by rw [z_upd_ne _ (by omega)]; exact hM q hq (by omega))
          refine ⟨W', fun j hj => (w1 j hj).trans (z_upd_ne _ (by omega)), ?_⟩
          simp only [Bool.false_eq_true, if_false] at w2
          cases hk : z_rkS sg (8 * r) n (p + 1) (f + 1) false (upd M (8 * r + f) (nI (z_manN (sg p)))) with
          | none => rw [hk] at w2; dsimp only at w2 ⊢; rcases w2 with g | g; exact .inl (by omega); exact .inr g
          | some q => rw [hk] at w2; exact w2
set_option maxRecDepth 100000 in
theorem z_rkS_end {sg : Nat → Nat} {b : Nat} : ∀ n p f dg M q, f ≤ 8 → z_rkS sg b n p f dg M = some q → p ≤ q.1 ∧ q.1 + f ≤ p + 8 := by
  intro n
  induction n with
  | zero => intro p f dg M q hf h; cases h
  | succ n ih =>
    intro p f dg M q hf h
    rw [z_rkS] at h
    split at h
    · cases h; exact ⟨Nat.le_refl _, by dsimp only; omega⟩
    · split at h
      · split at h
        · cases h
        · rename_i c1 c2 c3
          have h3 : ¬ 8 < f + (sg p - 48) := fun g => c3 (.inr g)
          have := ih _ _ _ _ _ (by omega) h; omega
      · split at h
        · cases h
        · have := ih _ _ _ _ _ (by omega) h; omega
set_option maxRecDepth 100000 in
theorem z_rkS_vm {sg : Nat → Nat} (h128 : ∀ p, sg p < 128) {b : Nat} : ∀ n p f dg M q, (∀ i, z_vm (M i) = true) → z_rkS sg b n p f dg M = some q → ∀ i, z_vm (q.2 i) = true := by
  intro n
  induction n with
  | zero => intro p f dg M q hM h; cases h
  | succ n ih =>
    intro p f dg M q hM h
    rw [z_rkS] at h
    split at h
    · cases h; exact hM
    · split at h
      · split at h
        · cases h
        · exact ih _ _ _ _ _ hM h
      · split at h
        · cases h
        · refine ih _ _ _ _ _ ?_ h
          intro i; unfold upd; split
          · exact (z_manN_vm _ (h128 p)).1
          · exact hM i
set_option maxRecDepth 100000 in
theorem z_mnS_vm {sg : Nat → Nat} (h128 : ∀ p, sg p < 128) : ∀ r p M q, (∀ i, z_vm (M i) = true) → z_mnS sg r p M = some q → ∀ i, z_vm (q.2 i) = true := by
  intro r
  induction r with
  | zero => intro p M q hM h; rw [z_mnS] at h; cases h; exact hM
  | succ r ih =>
    intro p M q hM h
    rw [z_mnS] at h
    cases hk : z_rkS sg (8 * r) 9 p 0 false M with
    | none => rw [hk] at h; cases h
    | some k =>
      rw [hk] at h
      dsimp only at h
      by_cases c : sg k.1 = (if 0 < r then 47 else 32)
      · rw [if_pos c] at h
        exact ih _ _ _ (z_rkS_vm h128 _ _ _ _ _ _ hM hk) h
      · rw [if_neg c] at h; cases h
set_option maxRecDepth 100000 in
theorem z_men_5 {typed : Int32} {text : Nat → Int32} {sg : Nat → Nat} (hsg : z_SgOk typed text sg) {men0 : Nat → Int32} :
    ∀ k p W M e9, k ≤ 8 → p + 9 * k ≤ 72 → z_Rd W M (k - 1) (if k = 0 then 8 else 0) → (∀ q, q < 64 → q / 8 < k → M q = 0) →
    ∃ W' : Nat → Int32, (∀ j, 64 ≤ j → W' j = W j) ∧
      match z_mnS sg k p M with
      | none => f_Mo_readMen_5 typed text men0 (e9 + k + 1) (nI p) (if k = 0 then -1 else nI (k - 1)) W = (-1, W')
      | some q => p ≤ q.1 ∧ q.1 ≤ 72 ∧ (∀ i, i < 64 → W' i = q.2 i) ∧ f_Mo_readMen_5 typed text men0 (e9 + k + 1) (nI p) (if k = 0 then -1 else nI (k - 1)) W = (nI q.1 - 1, W') := by
  intro k
  induction k with
  | zero =>
    intro p W M e9 hk hp hR hM
    refine ⟨W, fun _ _ => rfl, ?_⟩
    rw [z_mnS]
    dsimp only
    refine ⟨Nat.le_refl _, by omega, fun i hi => hR i hi (by simp; omega), ?_⟩
    rw [f_Mo_readMen_5]; dsimp only
    rw [if_pos rfl, if_pos (by decide)]
  | succ r ih =>
    intro p W M e9 hk hp hR hM
    have hr : r < 8 := by omega
    simp only [Nat.add_sub_cancel, Nat.add_eq_zero_iff, Nat.one_ne_zero, and_false, if_false] at hR ⊢
    rw [z_mnS]
    obtain ⟨W1, w1, w2⟩ := z_men_14 hsg (r5 := f_Mo_readMen_5 typed text men0 (e9 + r + 1)) (men0 := men0) (A := W) (x := nI p) hr 9 p 0 false W M (by omega) (by omega) hR (fun q hq h => hM q hq (by omega))
    have st : f_Mo_readMen_5 typed text men0 (e9 + (r + 1) + 1) (nI p) (nI r) W = f_Mo_readMen_14 (f_Mo_readMen_5 typed text men0 (e9 + r + 1)) typed text men0 (nI p) (nI r) W 9 (nI p) 0 0 W := by
      rw [f_Mo_readMen_5]; dsimp only
      rw [if_neg (by rw [show (0 : Int32) = nI 0 from rfl, z_nI_lt (by omega) (by omega)]; omega)]; rfl
    rw [st]
    simp only [Bool.false_eq_true, if_false, show nI 0 = 0 from rfl] at w2
    cases hkk : z_rkS sg (8 * r) 9 p 0 false M with
    | none =>
      rw [hkk] at w2
      dsimp only at w2 ⊢
      rcases w2 with g | g
      · omega
      · exact ⟨W1, w1, g⟩
    | some q =>
      rw [hkk] at w2
      dsimp only at w2 ⊢
      obtain ⟨a1, a2, a3⟩ := w2
      have pe := z_rkS_end _ _ _ _ _ _ (by omega) hkk
      by_cases c : sg q.1 = (if 0 < r then 47 else 32)
      · rw [if_pos c] at a3 ⊢
        obtain ⟨W2, b1, b2⟩ := ih (q.1 + 1) W1 q.2 e9 (by omega) (by omega)
          (fun i hi h => a1 i hi (by
            by_cases r0 : r = 0
            · subst r0; omega
            · rw [if_neg r0] at h; omega))
          (fun i hi h => a2 i hi h)
        have vv : nI r + (-1) = (if r = 0 then -1 else nI (r - 1)) := by
          by_cases r0 : r = 0
          · subst r0; decide
          · rw [if_neg r0]; exact (by decide : ∀ r, r < 8 → r ≠ 0 → nI r + (-1) = nI (r - 1)) r hr r0
        refine ⟨W2, fun j hj => (b1 j hj).trans (w1 j hj), ?_⟩
        rw [a3, vv]
        cases hm : z_mnS sg r (q.1 + 1) q.2 with
        | none => rw [hm] at b2; exact b2
        | some k2 => rw [hm] at b2; exact ⟨by have := b2.1; omega, b2.2⟩
      · rw [if_neg c] at a3 ⊢
        exact ⟨W1, w1, a3⟩
set_option maxRecDepth 100000 in
theorem z_readMen_eq {typed : Int32} {text : Nat → Int32} {sg : Nat → Nat} (hsg : z_SgOk typed text sg) (men : Nat → Int32) :
    ∃ W' : Nat → Int32, (∀ j, 64 ≤ j → W' j = men j) ∧
      match z_mnS sg 8 0 (fun _ => 0) with
      | none => f_Mo_readMen typed text men = (-1, W')
      | some q => q.1 ≤ 72 ∧ (∀ i, i < 64 → W' i = q.2 i) ∧ f_Mo_readMen typed text men = (nI q.1 - 1, W') := by
  obtain ⟨W', w1, w2⟩ := z_men_5 hsg (men0 := men) 8 0 men (fun _ => 0) 0 (Nat.le_refl _) (by omega) (fun q hq h => by exfalso; simp at h; omega) (fun _ _ _ => rfl)
  refine ⟨W', w1, ?_⟩
  simp only [show (if (8 : Nat) = 0 then (-1 : Int32) else nI (8 - 1)) = 7 from rfl] at w2
  cases hm : z_mnS sg 8 0 (fun _ => 0) with
  | none => rw [hm] at w2; exact w2
  | some q => rw [hm] at w2; exact ⟨w2.2.1, w2.2.2⟩
abbrev z_isDg (c : Nat) : Prop := 48 ≤ c ∧ c ≤ 57
def z_nmS (sg : Nat → Nat) (p : Nat) : Option (Nat × Nat) :=
  if z_isDg (sg p) then
    if z_isDg (sg (p + 1)) then
      if sg p = 48 then none
      else if z_isDg (sg (p + 2)) then
        if z_isDg (sg (p + 3)) then none else some (100 * (sg p - 48) + 10 * (sg (p + 1) - 48) + (sg (p + 2) - 48), 3)
      else some (10 * (sg p - 48) + (sg (p + 1) - 48), 2)
    else some (sg p - 48, 1)
  else none
def z_nsS (sg : Nat → Nat) (n p : Nat) : Option (Nat × Nat) :=
  if sg p = 32 then
    match z_nmS sg (p + 1) with
    | none => none
    | some c => if sg (p + 1 + c.2) = 32 then
        match z_nmS sg (p + 1 + c.2 + 1) with
        | none => none
        | some d => if d.1 = 0 ∨ p + 1 + c.2 + 1 + d.2 ≠ n then none else some (c.1, d.1)
      else none
  else none
def z_psS (sg : Nat → Nat) (n p : Nat) : Option (Nat × Nat × Nat) :=
  if sg p = 32 then
    if sg (p + 1) = 45 then (z_nsS sg n (p + 2)).map (fun x => (64, x))
    else if 97 ≤ sg (p + 1) ∧ sg (p + 1) ≤ 104 ∧ 49 ≤ sg (p + 2) ∧ sg (p + 2) ≤ 56 then (z_nsS sg n (p + 3)).map (fun x => (8 * (sg (p + 2) - 49) + (sg (p + 1) - 97), x))
    else none
  else none
def z_rtS (sg : Nat → Nat) (p : Nat) : Nat × Nat :=
  let p1 := if sg p = 75 then p + 1 else p
  let p2 := if sg p1 = 81 then p1 + 1 else p1
  let p3 := if sg p2 = 107 then p2 + 1 else p2
  let p4 := if sg p3 = 113 then p3 + 1 else p3
  ((if sg p = 75 then 1 else 0) + (if sg p1 = 81 then 2 else 0) + (if sg p2 = 107 then 4 else 0) + (if sg p3 = 113 then 8 else 0), p4)
def z_rsS (sg : Nat → Nat) (n p : Nat) : Option (Nat × Nat × Nat × Nat) :=
  if sg p = 45 then (z_psS sg n (p + 1)).map (fun x => (0, x))
  else if (z_rtS sg p).1 = 0 then none else (z_psS sg n (z_rtS sg p).2).map (fun x => ((z_rtS sg p).1, x))
def z_restS (sg : Nat → Nat) (n p : Nat) : Option (Nat × Nat × Nat × Nat × Nat) :=
  if (sg p = 119 ∨ sg p = 98) ∧ sg (p + 1) = 32 then (z_rsS sg n (p + 2)).map (fun x => ((if sg p = 119 then 0 else 1), x)) else none
set_option maxRecDepth 100000 in
theorem z_num_4 {typed : Int32} {text : Nat → Int32} {sg : Nat → Nat} (hsg : z_SgOk typed text sg) {p : Nat} (hp : p < 150) : f_Mo_numberAt typed text (nI p) = (match z_nmS sg p with | none => -1 | some c => nI c.1) ∧
    (∀ c, z_nmS sg p = some c → f_Mo_lengthOf (nI c.1) = nI c.2 ∧ c.1 ≤ 999 ∧ 1 ≤ c.2 ∧ c.2 ≤ 3) := by
  have lo : ∀ q, q < 190 → (f_Mo_sign typed text (nI q) < 48 ↔ sg q < 48) := fun q hq => by rw [(hsg q (by omega)).1]; exact z_nI_lt (b := 48) (by have := (hsg q (by omega)).2; omega) (by omega)
  have hi : ∀ q, q < 190 → ((57 : Int32) < f_Mo_sign typed text (nI q) ↔ 57 < sg q) := fun q hq => by rw [(hsg q (by omega)).1]; exact z_nI_lt (a := 57) (by omega) (by have := (hsg q (by omega)).2; omega)
  have p4 : nI p + 4 = nI (p + 4) := z_nI_add p 4
  have p3 : nI p + 3 = nI (p + 3) := z_nI_add p 3
  have p1 : nI p + 1 = nI (p + 1) := z_nI_add p 1
  have stop : ∀ n v q, q < 190 → (¬ z_isDg (sg q) ∨ p + 4 ≤ q) → f_Mo_numberAt_4 typed text (nI p) (n + 1) (nI v) (nI q) = f_Mo_numberAt_51 typed text (nI p) (nI v) (nI q) := by
    intro n v q hq h
    rw [f_Mo_numberAt_4]; dsimp only
    rw [p4]
    by_cases c : p + 4 ≤ q
    · rw [if_pos ((z_nI_le (by omega) (by omega)).mpr c)]
    · rw [if_neg (fun g => c ((z_nI_le (by omega) (by omega)).mp g))]
      have h' : ¬ z_isDg (sg q) := h.resolve_right c
      by_cases c1 : sg q < 48
      · rw [if_pos ((lo q hq).mpr c1)]
      · rw [if_neg (fun g => c1 ((lo q hq).mp g)), if_pos ((hi q hq).mpr (by omega))]
  have go : ∀ n v q, q < p + 4 → v ≤ 9999 → z_isDg (sg q) → f_Mo_numberAt_4 typed text (nI p) (n + 1) (nI v) (nI q) = f_Mo_numberAt_4 typed text (nI p) n (nI (10 * v + (sg q - 48))) (nI (q + 1)) := by
    intro n v q hq hv h
    rw [f_Mo_numberAt_4]; dsimp only
    rw [p4, if_neg (by rw [z_nI_le (by omega) (by omega)]; omega), if_neg (by rw [lo q (by omega)]; omega), if_neg (by rw [hi q (by omega)]; omega), (hsg q (by omega)).1]
    rw [show (10 : Int32) = nI 10 from rfl, z_nI_mul, z_nI_add, show (48 : Int32) = nI 48 from rfl, z_nI_sub (by omega) (by omega), show nI q + 1 = nI (q + 1) from z_nI_add q 1]
    congr 2; omega
  have fin : ∀ v q, v ≤ 9999 → p < q → q ≤ p + 4 → f_Mo_numberAt_51 typed text (nI p) (nI v) (nI q) = if p + 3 < q ∨ (p + 1 < q ∧ sg p = 48) then -1 else nI v := by
    intro v q hv h1 h2
    have e0 : ¬ nI q = nI p := fun g => by have := (z_nI_inj (by omega) (by omega)).mp g; omega
    have e3 : nI (p + 3) < nI q ↔ p + 3 < q := z_nI_lt (by omega) (by omega)
    have e1 : nI (p + 1) < nI q ↔ p + 1 < q := z_nI_lt (by omega) (by omega)
    have s0 := hsg p (by omega)
    have e4 : nI (sg p) = 48 ↔ sg p = 48 := z_nI_inj (b := 48) (by omega) (by omega)
    have e1' : nI q ≤ nI (p + 1) ↔ q ≤ p + 1 := z_nI_le (by omega) (by omega)
    unfold f_Mo_numberAt_51
    rw [p3, p1, s0.1, if_neg e0]
    by_cases a : p + 3 < q
    · rw [if_pos (e3.mpr a), if_pos (.inl a)]
    · rw [if_neg (fun g => a (e3.mp g))]
      by_cases b : p + 1 < q
      · rw [if_neg (fun g => by have := e1'.mp g; omega)]
        by_cases c : sg p = 48
        · rw [if_pos (e4.mpr c), if_pos (.inr ⟨b, c⟩)]
        · rw [if_neg (fun g => c (e4.mp g)), if_neg (by omega)]
      · rw [if_pos (e1'.mpr (by omega)), if_neg (by omega)]
  have len : ∀ v, v ≤ 999 → f_Mo_lengthOf (nI v) = nI (if v < 10 then 1 else if v < 100 then 2 else 3) := by
    intro v hv
    have a10 : nI v < 10 ↔ v < 10 := z_nI_lt (b := 10) (by omega) (by omega)
    have a100 : nI v < 100 ↔ v < 100 := z_nI_lt (b := 100) (by omega) (by omega)
    have b10 : (10 : Int32) ≤ nI v ↔ 10 ≤ v := z_nI_le (a := 10) (by omega) (by omega)
    have b100 : (100 : Int32) ≤ nI v ↔ 100 ≤ v := z_nI_le (a := 100) (by omega) (by omega)
    unfold f_Mo_lengthOf
    by_cases c1 : v < 10
    · have : ¬ 10 ≤ v := by omega
      simp [a10, a100, b10, b100, c1, this]; try rfl
    · have h10 : 10 ≤ v := by omega
      by_cases c2 : v < 100
      · have : ¬ 100 ≤ v := by omega
        simp [a10, a100, b10, b100, c1, c2, h10, this]; try rfl
      · have h100 : 100 ≤ v := by omega
        simp [a10, a100, b10, b100, c1, c2, h10, h100]; try rfl
  unfold z_nmS
  rw [f_Mo_numberAt, show (0 : Int32) = nI 0 from rfl]
  by_cases d0 : z_isDg (sg p)
  · rw [if_pos d0, go 4 0 p (by omega) (by omega) d0]
    by_cases d1 : z_isDg (sg (p + 1))
    · rw [if_pos d1, go 3 _ (p + 1) (by omega) (by omega) d1]
      by_cases d2 : z_isDg (sg (p + 2))
      · rw [if_pos d2, go 2 _ (p + 2) (by omega) (by omega) d2]
        by_cases d3 : z_isDg (sg (p + 3))
        · rw [if_pos d3, go 1 _ (p + 3) (by omega) (by omega) d3, stop 0 _ (p + 3 + 1) (by omega) (.inr (by omega)), fin _ _ (by omega) (by omega) (by omega), if_pos (.inl (by omega))]
          by_cases z : sg p = 48
          · rw [if_pos z]; exact ⟨rfl, fun c h => by cases h⟩
          · rw [if_neg z]; exact ⟨rfl, fun c h => by cases h⟩
        · rw [if_neg d3, stop 1 _ (p + 2 + 1) (by omega) (.inl d3), fin _ _ (by omega) (by omega) (by omega)]
          by_cases z : sg p = 48
          · rw [if_pos z, if_pos (.inr ⟨by omega, z⟩)]; exact ⟨rfl, fun c h => by cases h⟩
          · rw [if_neg z, if_neg (by omega)]
            refine ⟨by congr 1; omega, fun c h => ?_⟩
            cases h
            dsimp only
            refine ⟨?_, by omega, by omega, by omega⟩
            rw [len _ (by omega), if_neg (by omega), if_neg (by omega)]
      · rw [if_neg d2, stop 2 _ (p + 1 + 1) (by omega) (.inl d2), fin _ _ (by omega) (by omega) (by omega)]
        by_cases z : sg p = 48
        · rw [if_pos z, if_pos (.inr ⟨by omega, z⟩)]; exact ⟨rfl, fun c h => by cases h⟩
        · rw [if_neg z, if_neg (by omega)]
          refine ⟨by congr 1; omega, fun c h => ?_⟩
          cases h
          dsimp only
          refine ⟨?_, by omega, by omega, by omega⟩
          rw [len _ (by omega), if_neg (by omega), if_pos (by omega)]
    · rw [if_neg d1, stop 3 _ (p + 1) (by omega) (.inl d1), fin _ _ (by omega) (by omega) (by omega), if_neg (by omega)]
      refine ⟨by congr 1; omega, fun c h => ?_⟩
      cases h
      dsimp only
      refine ⟨?_, by omega, by omega, by omega⟩
      rw [len _ (by omega), if_pos (by omega)]
  · rw [if_neg d0, stop 4 _ p (by omega) (.inl d0)]
    refine ⟨?_, fun c h => by cases h⟩
    unfold f_Mo_numberAt_51
    simp
set_option maxRecDepth 100000 in
theorem z_ns_248 {n : Nat} {text : Nat → Int32} {sg : Nat → Nat} (hn : n ≤ 100) (hsg : z_SgOk (nI n) text sg) {a b c d e at9 k48 v162 Wr Wp : Int32} {p : Nat} (hp : p < 100) :
    match z_nsS sg n p with
    | none => (f_Mo_readRest_248 (nI n) text a b c d e at9 k48 v162 Wr (nI p) Wp).1 = 0
    | some x => f_Mo_readRest_248 (nI n) text a b c d e at9 k48 v162 Wr (nI p) Wp = (1, k48, Wr, Wp, nI x.1, nI x.2) := by
  have s0 := hsg p (by omega)
  have e0 : nI (sg p) = 32 ↔ sg p = 32 := z_nI_inj (b := 32) (by omega) (by omega)
  have p1 : nI p + 1 = nI (p + 1) := z_nI_add p 1
  obtain ⟨m1, m2⟩ := z_num_4 hsg (p := p + 1) (by omega)
  unfold z_nsS f_Mo_readRest_248
  rw [s0.1, p1, m1]
  by_cases c0 : sg p = 32
  · rw [if_pos (e0.mpr c0), if_pos c0]
    cases hm : z_nmS sg (p + 1) with
    | none =>
      dsimp only
      rw [if_neg (by decide)]
    | some x =>
      obtain ⟨q1, q2, q3, q4⟩ := m2 x hm
      dsimp only
      have h0 : (0 : Int32) ≤ nI x.1 := by rw [show (0 : Int32) = nI 0 from rfl, z_nI_le (by omega) (by omega)]; omega
      rw [if_pos h0, q1, z_nI_add]
      have s1 := hsg (p + 1 + x.2) (by omega)
      have e1 : nI (sg (p + 1 + x.2)) = 32 ↔ sg (p + 1 + x.2) = 32 := z_nI_inj (b := 32) (by omega) (by omega)
      rw [s1.1]
      by_cases c1 : sg (p + 1 + x.2) = 32
      · rw [if_pos (e1.mpr c1), if_pos c1, show nI (p + 1 + x.2) + 1 = nI (p + 1 + x.2 + 1) from z_nI_add _ 1]
        obtain ⟨w1, w2⟩ := z_num_4 hsg (p := p + 1 + x.2 + 1) (by omega)
        rw [w1]
        cases hm2 : z_nmS sg (p + 1 + x.2 + 1) with
        | none =>
          dsimp only
          rw [if_pos (by decide)]
        | some y =>
          obtain ⟨r1, r2, r3, r4⟩ := w2 y hm2
          dsimp only
          rw [r1, z_nI_add]
          have e2 : nI y.1 ≤ 0 ↔ y.1 ≤ 0 := z_nI_le (b := 0) (by omega) (by omega)
          have e3 : nI (p + 1 + x.2 + 1 + y.2) = nI n ↔ p + 1 + x.2 + 1 + y.2 = n := z_nI_inj (by omega) (by omega)
          by_cases c2 : y.1 = 0
          · have a1 : nI y.1 ≤ 0 := e2.mpr (by omega)
            have a2 : y.1 = 0 ∨ p + 1 + x.2 + 1 + y.2 ≠ n := .inl c2
            rw [if_pos a1, if_pos a2]
          · have a1 : ¬ nI y.1 ≤ 0 := fun g => c2 (by have := e2.mp g; omega)
            rw [if_neg a1]
            by_cases c3 : p + 1 + x.2 + 1 + y.2 = n
            · have a2 : ¬ (y.1 = 0 ∨ p + 1 + x.2 + 1 + y.2 ≠ n) := fun g => by rcases g with g | g; exact c2 g; exact g c3
              rw [if_pos (e3.mpr c3), if_neg a2]
            · have a2 : y.1 = 0 ∨ p + 1 + x.2 + 1 + y.2 ≠ n := .inr c3
              rw [if_neg (fun g => c3 (e3.mp g)), if_pos a2]
      · rw [if_neg (fun g => c1 (e1.mp g)), if_neg c1]
  · rw [if_neg (fun g => c0 (e0.mp g)), if_neg c0]
set_option maxRecDepth 100000 in
theorem z_on_bits : ∀ c, c < 128 → (nI c - 97 < 0 ↔ c < 97) ∧ ((8 : Int32) ≤ nI c - 97 ↔ 104 < c) ∧ (nI c - 49 < 0 ↔ c < 49) ∧ ((8 : Int32) ≤ nI c - 49 ↔ 56 < c) := by decide +kernel
set_option maxRecDepth 100000 in
theorem z_ps_162 {n : Nat} {text : Nat → Int32} {sg : Nat → Nat} (hn : n ≤ 100) (hsg : z_SgOk (nI n) text sg) {a b c d e at9 k48 Wr : Int32} {p : Nat} (hp : p < 97) :
    match z_psS sg n p with
    | none => (f_Mo_readRest_162 (nI n) text a b c d e at9 k48 (nI p) Wr).1 = 0
    | some x => x.1 ≤ 64 ∧ f_Mo_readRest_162 (nI n) text a b c d e at9 k48 (nI p) Wr = (1, k48, Wr, z_pI x.1, nI x.2.1, nI x.2.2) := by
  have s0 := hsg p (by omega)
  have s1 := hsg (p + 1) (by omega)
  have s2 := hsg (p + 2) (by omega)
  have e0 : nI (sg p) = 32 ↔ sg p = 32 := z_nI_inj (b := 32) (by omega) (by omega)
  have e1 : nI (sg (p + 1)) = 45 ↔ sg (p + 1) = 45 := z_nI_inj (b := 45) (by omega) (by omega)
  have p1 : nI p + 1 = nI (p + 1) := z_nI_add p 1
  have p2 : nI (p + 1) + 1 = nI (p + 2) := z_nI_add _ 1
  have p3 : nI (p + 1) + 2 = nI (p + 3) := z_nI_add _ 2
  unfold z_psS f_Mo_readRest_162
  rw [s0.1, p1, p2, p3, s1.1, s2.1]
  by_cases c0 : sg p = 32
  · rw [if_pos (e0.mpr c0), if_pos c0]
    by_cases c1 : sg (p + 1) = 45
    · rw [if_pos (e1.mpr c1), if_pos c1]
      have := z_ns_248 hn hsg (a := a) (b := b) (c := c) (d := d) (e := e) (at9 := at9) (k48 := k48) (v162 := nI p) (Wr := Wr) (Wp := -1) (p := p + 2) (by omega)
      cases hm : z_nsS sg n (p + 2) with
      | none => rw [hm] at this; exact this
      | some x => rw [hm] at this; exact ⟨Nat.le_refl _, this⟩
    · rw [if_neg (fun g => c1 (e1.mp g)), if_neg c1]
      obtain ⟨o1, o2, -, -⟩ := z_on_bits (sg (p + 1)) s1.2
      obtain ⟨-, -, o3, o4⟩ := z_on_bits (sg (p + 2)) s2.2
      by_cases c2 : 97 ≤ sg (p + 1) ∧ sg (p + 1) ≤ 104 ∧ 49 ≤ sg (p + 2) ∧ sg (p + 2) ≤ 56
      · have on : f_Mo_isOn (nI (sg (p + 1)) - 97) (nI (sg (p + 2)) - 49) = 1 := by
          unfold f_Mo_isOn
          rw [if_neg (by rw [o1]; omega), if_neg (by rw [o2]; omega), if_neg (by rw [o3]; omega), if_neg (by rw [o4]; omega)]
        rw [if_pos c2, on, if_neg (by decide)]
        have v : (8 : Int32) * (nI (sg (p + 2)) - 49) + (nI (sg (p + 1)) - 97) = z_pI (8 * (sg (p + 2) - 49) + (sg (p + 1) - 97)) := by
          rw [show (49 : Int32) = nI 49 from rfl, show (97 : Int32) = nI 97 from rfl, z_nI_sub (by omega) (by omega), z_nI_sub (by omega) (by omega), show (8 : Int32) = nI 8 from rfl, z_nI_mul, z_nI_add, z_pI, if_pos (by omega)]
        rw [v]
        have := z_ns_248 hn hsg (a := a) (b := b) (c := c) (d := d) (e := e) (at9 := at9) (k48 := k48) (v162 := nI p) (Wr := Wr) (Wp := z_pI (8 * (sg (p + 2) - 49) + (sg (p + 1) - 97))) (p := p + 3) (by omega)
        cases hm : z_nsS sg n (p + 3) with
        | none => rw [hm] at this; exact this
        | some x => rw [hm] at this; exact ⟨by dsimp only; omega, this⟩
      · have on : f_Mo_isOn (nI (sg (p + 1)) - 97) (nI (sg (p + 2)) - 49) = 0 := by
          unfold f_Mo_isOn
          by_cases q1 : sg (p + 1) < 97
          · rw [if_pos (o1.mpr q1)]
          · rw [if_neg (fun g => q1 (o1.mp g))]
            by_cases q2 : 104 < sg (p + 1)
            · rw [if_pos (o2.mpr q2)]
            · rw [if_neg (fun g => q2 (o2.mp g))]
              by_cases q3 : sg (p + 2) < 49
              · rw [if_pos (o3.mpr q3)]
              · rw [if_neg (fun g => q3 (o3.mp g)), if_pos (o4.mpr (by omega))]
        rw [if_neg c2, on, if_pos rfl]
  · rw [if_neg (fun g => c0 (e0.mp g)), if_neg c0]
set_option maxRecDepth 100000 in
theorem z_or_bit : ∀ w, w < 16 → ∀ k, k < 4 → nI w ||| ((1 : Int32) <<< (nI k &&& 31)) = nI (w ||| 2 ^ k) := by decide +kernel
def z_chK (k : Nat) : Nat := if k = 0 then 75 else if k = 1 then 81 else if k = 2 then 107 else 113
set_option maxRecDepth 100000 in
theorem z_rt_step {n : Nat} {text : Nat → Int32} {sg : Nat → Nat} (hsg : z_SgOk (nI n) text sg) {a b c d e at9 k48 : Int32} {p k w m : Nat} (hp : p < 150) (hk : k < 4) (hw : w < 16) :
    f_Mo_readRest_79 (nI n) text a b c d e at9 k48 (m + 1) (nI p) (nI k) (nI w) = f_Mo_readRest_79 (nI n) text a b c d e at9 k48 m (nI (if sg p = z_chK k then p + 1 else p)) (nI (k + 1)) (nI (if sg p = z_chK k then w ||| 2 ^ k else w)) := by
  have s0 := hsg p (by omega)
  have key : ∀ ch : Nat, ch < 128 → z_chK k = ch → f_Mo_readRest_119 (f_Mo_readRest_79 (nI n) text a b c d e at9 k48 m) (nI n) text a b c d e at9 k48 (nI p) (nI k) (nI w) (nI ch) = f_Mo_readRest_79 (nI n) text a b c d e at9 k48 m (nI (if sg p = z_chK k then p + 1 else p)) (nI (k + 1)) (nI (if sg p = z_chK k then w ||| 2 ^ k else w)) := by
    intro ch hch hck
    have e : nI (sg p) = nI ch ↔ sg p = ch := z_nI_inj (by omega) (by omega)
    rw [f_Mo_readRest_119, s0.1, z_or_bit w hw k hk, show nI p + 1 = nI (p + 1) from z_nI_add p 1, show nI k + 1 = nI (k + 1) from z_nI_add k 1, hck]
    by_cases c : sg p = ch
    · rw [if_pos (e.mpr c), if_pos c, if_pos c]
    · rw [if_neg (fun g => c (e.mp g)), if_neg c, if_neg c]
  rw [f_Mo_readRest_79]; dsimp only
  rw [if_neg ((by decide : ∀ k, k < 4 → ¬ (4 : Int32) ≤ nI k) k hk)]
  have hk4 : k = 0 ∨ k = 1 ∨ k = 2 ∨ k = 3 := by omega
  rcases hk4 with rfl | rfl | rfl | rfl
  · rw [if_pos (show nI 0 = 0 from rfl)]; exact key 75 (by decide) rfl
  · rw [if_neg (by decide), if_pos (show nI 1 = 1 from rfl)]; exact key 81 (by decide) rfl
  · rw [if_neg (by decide), if_neg (by decide), if_pos (show nI 2 = 2 from rfl)]; exact key 107 (by decide) rfl
  · rw [if_neg (by decide), if_neg (by decide), if_neg (by decide)]; exact key 113 (by decide) rfl
set_option maxRecDepth 100000 in
theorem z_rs_79 {n : Nat} {text : Nat → Int32} {sg : Nat → Nat} (hn : n ≤ 100) (hsg : z_SgOk (nI n) text sg) {a b c d e at9 k48 : Int32} {p : Nat} (hp : p < 90) :
    f_Mo_readRest_79 (nI n) text a b c d e at9 k48 5 (nI p) 0 0 = if (z_rtS sg p).1 = 0 then (0, k48, 0, c, d, e) else f_Mo_readRest_162 (nI n) text a b c d e at9 k48 (nI (z_rtS sg p).2) (nI (z_rtS sg p).1) := by
  rw [show (0 : Int32) = nI 0 from rfl, z_rt_step hsg (by omega) (by decide) (by decide)]
  generalize hp1 : (if sg p = z_chK 0 then p + 1 else p) = p1
  have b1 : p1 ≤ p + 1 := by rw [← hp1]; split <;> omega
  generalize hw1 : (if sg p = z_chK 0 then 0 ||| 2 ^ 0 else 0) = w1
  have l1 : w1 = (if sg p = 75 then 1 else 0) := by rw [← hw1]; rfl
  rw [z_rt_step hsg (p := p1) (by omega) (by decide) (by rw [l1]; split <;> decide)]
  generalize hp2 : (if sg p1 = z_chK (0 + 1) then p1 + 1 else p1) = p2
  have b2 : p2 ≤ p1 + 1 := by rw [← hp2]; split <;> omega
  generalize hw2 : (if sg p1 = z_chK (0 + 1) then w1 ||| 2 ^ (0 + 1) else w1) = w2
  have l2 : w2 = (if sg p = 75 then 1 else 0) + (if sg p1 = 81 then 2 else 0) := by
    rw [← hw2, l1, show z_chK (0 + 1) = 81 from rfl]; repeat' split
    all_goals rfl
  have z_g2 : w2 < 16 := by
    rw [l2]; repeat' split
    all_goals decide
  rw [z_rt_step hsg (p := p2) (by omega) (by decide) z_g2]
  generalize hp3 : (if sg p2 = z_chK (0 + 1 + 1) then p2 + 1 else p2) = p3
  have b3 : p3 ≤ p2 + 1 := by rw [← hp3]; split <;> omega
  generalize hw3 : (if sg p2 = z_chK (0 + 1 + 1) then w2 ||| 2 ^ (0 + 1 + 1) else w2) = w3
  have l3 : w3 = (if sg p = 75 then 1 else 0) + (if sg p1 = 81 then 2 else 0) + (if sg p2 = 107 then 4 else 0) := by
    rw [← hw3, l2, show z_chK (0 + 1 + 1) = 107 from rfl]; repeat' split
    all_goals rfl
  have z_g3 : w3 < 16 := by
    rw [l3]; repeat' split
    all_goals decide
  rw [z_rt_step hsg (p := p3) (by omega) (by decide) z_g3]
  generalize hp4 : (if sg p3 = z_chK (0 + 1 + 1 + 1) then p3 + 1 else p3) = p4
  generalize hw4 : (if sg p3 = z_chK (0 + 1 + 1 + 1) then w3 ||| 2 ^ (0 + 1 + 1 + 1) else w3) = w4
  have l4 : w4 = (if sg p = 75 then 1 else 0) + (if sg p1 = 81 then 2 else 0) + (if sg p2 = 107 then 4 else 0) + (if sg p3 = 113 then 8 else 0) := by
    rw [← hw4, l3, show z_chK (0 + 1 + 1 + 1) = 113 from rfl]; repeat' split
    all_goals rfl
  have er : z_rtS sg p = (w4, p4) := by
    unfold z_rtS
    dsimp only
    rw [show (if sg p = 75 then p + 1 else p) = p1 from hp1, show (if sg p1 = 81 then p1 + 1 else p1) = p2 from hp2, show (if sg p2 = 107 then p2 + 1 else p2) = p3 from hp3, show (if sg p3 = 113 then p3 + 1 else p3) = p4 from hp4, l4]
  have w16 : w4 < 16 := by
    rw [l4]; repeat' split
    all_goals decide
  rw [er, f_Mo_readRest_79]; dsimp only
  rw [if_pos (by decide)]
  have e0 : nI w4 = 0 ↔ w4 = 0 := z_nI_inj (b := 0) (by omega) (by omega)
  by_cases c0 : w4 = 0
  · rw [if_pos (e0.mpr c0), if_pos c0, c0]; rfl
  · rw [if_neg (fun g => c0 (e0.mp g)), if_neg c0]
set_option maxRecDepth 100000 in
theorem z_rtS_lt (sg : Nat → Nat) (p : Nat) : (z_rtS sg p).1 < 16 ∧ p ≤ (z_rtS sg p).2 ∧ (z_rtS sg p).2 ≤ p + 4 := by
  unfold z_rtS
  dsimp only
  refine ⟨?_, ?_, ?_⟩
  · repeat' split
    all_goals decide
  · repeat' split
    all_goals omega
  · repeat' split
    all_goals omega
set_option maxRecDepth 100000 in
theorem z_readRest_eq {n : Nat} {text : Nat → Int32} {sg : Nat → Nat} (hn : n ≤ 100) (hsg : z_SgOk (nI n) text sg) {a b c d e : Int32} {p : Nat} (hp1 : 1 ≤ p) (hp : p ≤ 72) :
    match z_restS sg n p with
    | none => (f_Mo_readRest (nI n) text a b c d e (nI p - 1)).1 = 0
    | some x => x.1 < 2 ∧ x.2.1 < 16 ∧ x.2.2.1 ≤ 64 ∧ f_Mo_readRest (nI n) text a b c d e (nI p - 1) = (1, nI x.1, nI x.2.1, z_pI x.2.2.1, nI x.2.2.2.1, nI x.2.2.2.2) := by
  have s0 := hsg p (by omega)
  have s1 := hsg (p + 1) (by omega)
  have s2 := hsg (p + 2) (by omega)
  have q0 : nI p - 1 + 1 = nI p := by rw [show (1 : Int32) = nI 1 from rfl, z_nI_sub (by omega) (by omega), z_nI_add]; congr 1; omega
  have q1 : nI p + 1 = nI (p + 1) := z_nI_add p 1
  have q2 : nI p + 2 = nI (p + 2) := z_nI_add p 2
  have q3 : nI (p + 2) + 1 = nI (p + 3) := z_nI_add _ 1
  have w : nI (sg p) = 119 ↔ sg p = 119 := z_nI_inj (b := 119) (by omega) (by omega)
  have bb : nI (sg p) = 98 ↔ sg p = 98 := z_nI_inj (b := 98) (by omega) (by omega)
  have sp : nI (sg (p + 1)) = 32 ↔ sg (p + 1) = 32 := z_nI_inj (b := 32) (by omega) (by omega)
  have da : nI (sg (p + 2)) = 45 ↔ sg (p + 2) = 45 := z_nI_inj (b := 45) (by omega) (by omega)
  have k48 : ∀ k : Nat, k < 2 → match z_rsS sg n (p + 2) with
      | none => (f_Mo_readRest_48 (nI n) text a b c d e (nI p - 1) (nI k)).1 = 0
      | some x => x.1 < 16 ∧ x.2.1 ≤ 64 ∧ f_Mo_readRest_48 (nI n) text a b c d e (nI p - 1) (nI k) = (1, nI k, nI x.1, z_pI x.2.1, nI x.2.2.1, nI x.2.2.2) := by
    intro k hk
    unfold z_rsS f_Mo_readRest_48
    rw [q0, q2, s2.1, q3]
    by_cases c0 : sg (p + 2) = 45
    · rw [if_pos (da.mpr c0), if_pos c0]
      have := z_ps_162 hn hsg (a := a) (b := b) (c := c) (d := d) (e := e) (at9 := nI p - 1) (k48 := nI k) (Wr := 0) (p := p + 3) (by omega)
      cases hm : z_psS sg n (p + 2 + 1) with
      | none => rw [show p + 2 + 1 = p + 3 from rfl] at hm; rw [hm] at this; exact this
      | some x => rw [show p + 2 + 1 = p + 3 from rfl] at hm; rw [hm] at this; exact ⟨(by show (0 : Nat) < 16; decide), this.1, this.2⟩
    · rw [if_neg (fun g => c0 (da.mp g)), if_neg c0, z_rs_79 hn hsg (by omega)]
      have lt := z_rtS_lt sg (p + 2)
      by_cases c1 : (z_rtS sg (p + 2)).1 = 0
      · rw [if_pos c1, if_pos c1]
      · rw [if_neg c1, if_neg c1]
        have := z_ps_162 hn hsg (a := a) (b := b) (c := c) (d := d) (e := e) (at9 := nI p - 1) (k48 := nI k) (Wr := nI (z_rtS sg (p + 2)).1) (p := (z_rtS sg (p + 2)).2) (by omega)
        cases hm : z_psS sg n (z_rtS sg (p + 2)).2 with
        | none => rw [hm] at this; exact this
        | some x => rw [hm] at this; exact ⟨lt.1, this.1, this.2⟩
  have k22 : match z_restS sg n p with
      | none => (sg p = 119 ∨ sg p = 98) → (f_Mo_readRest_22 (nI n) text a b c d e (nI p - 1)).1 = 0
      | some x => x.1 < 2 ∧ x.2.1 < 16 ∧ x.2.2.1 ≤ 64 ∧ f_Mo_readRest_22 (nI n) text a b c d e (nI p - 1) = (1, nI x.1, nI x.2.1, z_pI x.2.2.1, nI x.2.2.2.1, nI x.2.2.2.2) := by
    unfold z_restS f_Mo_readRest_22
    rw [q0, q1, s1.1, s0.1]
    by_cases c1 : sg (p + 1) = 32
    · rw [if_pos (sp.mpr c1)]
      by_cases c2 : sg p = 119
      · rw [if_pos (w.mpr c2), if_pos ⟨.inl c2, c1⟩]
        have := k48 0 (by decide)
        cases hm : z_rsS sg n (p + 2) with
        | none => rw [hm] at this; exact fun _ => this
        | some x => rw [hm] at this; dsimp only [Option.map]; rw [if_pos c2]; exact ⟨by decide, this.1, this.2.1, this.2.2⟩
      · rw [if_neg (fun g => c2 (w.mp g))]
        by_cases c3 : sg p = 98
        · rw [if_pos ⟨.inr c3, c1⟩]
          have := k48 1 (by decide)
          cases hm : z_rsS sg n (p + 2) with
          | none => rw [hm] at this; exact fun _ => this
          | some x => rw [hm] at this; dsimp only [Option.map]; rw [if_neg c2]; exact ⟨by decide, this.1, this.2.1, this.2.2⟩
        · rw [if_neg (fun g => by rcases g.1 with g | g; exact c2 g; exact c3 g)]
          intro g; rcases g with g | g; exact absurd g c2; exact absurd g c3
    · rw [if_neg (fun g => c1 (sp.mp g)), if_neg (fun g => c1 g.2)]
      exact fun _ => rfl
  rw [f_Mo_readRest, q0, s0.1]
  by_cases c2 : sg p = 119
  · rw [if_pos (w.mpr c2)]
    cases hm : z_restS sg n p with
    | none => rw [hm] at k22; exact k22 (.inl c2)
    | some x => rw [hm] at k22; exact k22
  · rw [if_neg (fun g => c2 (w.mp g))]
    by_cases c3 : sg p = 98
    · rw [if_pos (bb.mpr c3)]
      cases hm : z_restS sg n p with
      | none => rw [hm] at k22; exact k22 (.inr c3)
      | some x => rw [hm] at k22; exact k22
    · rw [if_neg (fun g => c3 (bb.mp g))]
      have : z_restS sg n p = none := by
        unfold z_restS; rw [if_neg (fun g => by rcases g.1 with g | g; exact c2 g; exact c3 g)]
      rw [this]

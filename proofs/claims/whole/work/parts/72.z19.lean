abbrev z_SgC (t : St_Li) (sg : Nat → Nat) : Prop := ∀ p : Nat, p < 200 → f_Li_at t.1 t.2 (nI p) = nI (sg p) ∧ sg p < 128
set_option maxRecDepth 100000 in
theorem z_idx_man : ∀ c, c < 128 → (0 < f_Js_indexOf 15 tMEN (toChar (nI c)) ↔ z_manN c ≠ 0) ∧ (z_manN c ≠ 0 → f_Js_indexOf 15 tMEN (toChar (nI c)) = nI (z_manN c)) := by decide +kernel
set_option maxRecDepth 100000 in
theorem z_rank_7 {t : St_Li} {sg : Nat → Nat} (hsg : z_SgC t sg) {W0 : St_Po} {a0 : Int32} {r : Nat} (hr : r < 8) :
    ∀ n p f (dg : Bool) k M (W : St_Po), k + n = 9 → k ≤ f → f ≤ 8 → p + n < 200 → z_BdM M W.1 →
    match z_rkS sg (8 * r) n p f dg M with
    | none => ∃ M' b' a', z_BdM M' b' ∧ f_Re_readRank_7 t W0 a0 (nI r) n (nI f) (if dg then 1 else 0) (nI k) W (nI p) = (0, (b', W.2), a')
    | some q => ∃ b', z_BdM q.2 b' ∧ f_Re_readRank_7 t W0 a0 (nI r) n (nI f) (if dg then 1 else 0) (nI k) W (nI p) = (1, (b', W.2), nI q.1) := by
  intro n
  induction n with
  | zero => intro p f dg k M W h1 h2 h3; omega
  | succ n ih =>
    intro p f dg k M W h1 h2 h3 hp hB
    have s1 := hsg p (by omega)
    have z_nx : f_Re_next t (nI p) = nI (sg p) := s1.1
    rw [z_rkS]
    by_cases c8 : 8 ≤ f
    · have f8 : f = 8 := by omega
      rw [if_pos c8]
      refine ⟨W.1, hB, ?_⟩
      rw [f_Re_readRank_7]; dsimp only
      have e : f_Re_readRank_135 t W0 a0 (nI r) (nI f) (if dg then 1 else 0) (nI k) W (nI p) = (1, (W.1, W.2), nI p) := by
        rw [f_Re_readRank_135, if_pos (by rw [f8]; rfl)]
      have z_g2 : (8 : Int32) ≤ nI f := by rw [f8]; decide
      rw [if_pos z_g2, e]; split <;> rfl
    · rw [if_neg c8]
      have n8 : ¬ (8 : Int32) ≤ nI f := by rw [show (8 : Int32) = nI 8 from rfl, z_nI_le (by omega) (by omega)]; omega
      have k8 : ¬ (8 : Int32) ≤ nI k := by rw [show (8 : Int32) = nI 8 from rfl, z_nI_le (by omega) (by omega)]; omega
      have l49 : nI (sg p) < 49 ↔ sg p < 49 := z_nI_lt (b := 49) (by omega) (by omega)
      have l56 : (56 : Int32) < nI (sg p) ↔ 56 < sg p := z_nI_lt (a := 56) (by omega) (by omega)
      have p1 : nI p + 1 = nI (p + 1) := z_nI_add p 1
      have k1 : nI k + 1 = nI (k + 1) := z_nI_add k 1
      by_cases cd : 49 ≤ sg p ∧ sg p ≤ 56
      · rw [if_pos cd]
        have st : f_Re_readRank_7 t W0 a0 (nI r) (n + 1) (nI f) (if dg then 1 else 0) (nI k) W (nI p) = f_Re_readRank_45 (f_Re_readRank_7 t W0 a0 (nI r) n) t W0 a0 (nI r) (nI f) (if dg then 1 else 0) (nI k) W (nI p) 1 := by
          rw [f_Re_readRank_7]; dsimp only
          rw [if_neg k8, if_neg n8, z_nx, if_neg (by rw [l49]; omega), if_neg (by rw [l56]; omega)]
        have d2 : nI f + (nI (sg p) - 48) = nI (f + (sg p - 48)) := by
          rw [show (48 : Int32) = nI 48 from rfl, z_nI_sub (by omega) (by omega), z_nI_add]
        have h10 : ¬ (1 : Int32) = 0 := by decide
        rw [st, f_Re_readRank_45, if_neg h10]
        cases hdg : dg
        · simp only [Bool.false_eq_true, if_false, false_or, if_true]
          rw [f_Re_readRank_76, if_neg h10, f_Re_readRank_99, if_neg h10, z_nx, d2, p1, k1]
          by_cases c9 : 8 < f + (sg p - 48)
          · rw [if_pos c9]
            refine ⟨M, W.1, nI (p + 1), hB, ?_⟩
            obtain ⟨n', rfl⟩ : ∃ n', n = n' + 1 := ⟨n - 1, by omega⟩
            rw [f_Re_readRank_7]; dsimp only
            have e : ∀ (v3 v4 : Int32), f_Re_readRank_135 t W0 a0 (nI r) (nI (f + (sg p - 48))) v3 v4 W (nI (p + 1)) = (0, (W.1, W.2), nI (p + 1)) := by
              intro v3 v4
              rw [f_Re_readRank_135, if_neg (fun g => by have := (z_nI_inj (b := 8) (by omega) (by omega)).mp g; omega)]
            have z_g2 : (8 : Int32) ≤ nI (f + (sg p - 48)) := by rw [show (8 : Int32) = nI 8 from rfl, z_nI_le (by omega) (by omega)]; omega
            rw [if_pos z_g2, e]; split <;> rfl
          · rw [if_neg c9]
            have := ih (p + 1) (f + (sg p - 48)) true (k + 1) M W (by omega) (by omega) (by omega) (by omega) hB
            simp only [if_true] at this
            exact this
        · simp only [true_or, if_true]
          rw [if_neg h10]
          exact ⟨M, W.1, nI p, hB, rfl⟩
      · rw [if_neg cd]
        have st : f_Re_readRank_7 t W0 a0 (nI r) (n + 1) (nI f) (if dg then 1 else 0) (nI k) W (nI p) = f_Re_readRank_44 (f_Re_readRank_7 t W0 a0 (nI r) n) t W0 a0 (nI r) (nI f) (if dg then 1 else 0) (nI k) W (nI p) := by
          rw [f_Re_readRank_7]; dsimp only
          rw [if_neg k8, if_neg n8, z_nx]
          by_cases c1 : sg p < 49
          · rw [if_pos (l49.mpr c1)]
          · rw [if_neg (fun g => c1 (l49.mp g)), if_pos (l56.mpr (by omega))]
        obtain ⟨i1, i2⟩ := z_idx_man (sg p) s1.2
        rw [st, f_Re_readRank_44, f_Re_readRank_45, if_pos rfl, z_nx]
        by_cases c0 : z_manN (sg p) = 0
        · rw [if_pos c0, if_neg (fun g => i1.mp g c0)]
          exact ⟨M, W.1, nI p, hB, rfl⟩
        · rw [if_neg c0, if_pos (i1.mpr c0), f_Re_readRank_76, if_pos rfl, z_nx, i2 c0]
          have ix : nI f + 8 * nI r = nI (8 * r + f) := by
            rw [show (8 : Int32) = nI 8 from rfl, z_nI_mul, z_nI_add]; congr 1; omega
          rw [ix, f_Re_readRank_r96, f_Re_readRank_99, if_pos rfl, p1, k1, show nI f + 1 = nI (f + 1) from z_nI_add f 1]
          have hB' := hB.put (q := 8 * r + f) (by omega) (z_manN_vm (sg p) s1.2).1
          have := ih (p + 1) (f + 1) false (k + 1) (upd M (8 * r + f) (nI (z_manN (sg p)))) (f_Bo_put W.1.1 W.1.2 (nI (8 * r + f)) (nI (z_manN (sg p))), W.2.1, W.2.2.1, W.2.2.2.1, W.2.2.2.2.1, W.2.2.2.2.2) (by omega) (by omega) (by omega) (by omega) hB'
          simp only [Bool.false_eq_true, if_false] at this
          exact this
set_option maxRecDepth 100000 in
theorem z_readOne_eq {t : St_Li} {sg : Nat → Nat} (hsg : z_SgC t sg) {p ch : Nat} (hp : p < 200) (hc : ch < 128) : f_Re_readOne t (nI p) (nI ch) = if sg p = ch then (1, nI (p + 1)) else (0, nI p) := by
  have s1 := hsg p hp
  have e : nI (sg p) = nI ch ↔ sg p = ch := z_nI_inj (by omega) (by omega)
  rw [f_Re_readOne, s1.1, show nI p + 1 = nI (p + 1) from z_nI_add p 1]
  by_cases c : sg p = ch
  · rw [if_pos (e.mpr c), if_pos c]
  · rw [if_neg (fun g => c (e.mp g)), if_neg c]
set_option maxRecDepth 100000 in
theorem z_men_3 {t : St_Li} {sg : Nat → Nat} (hsg : z_SgC t sg) {W0 : St_Po} {a0 : Int32} :
    ∀ k p M (W : St_Po) e9, k ≤ 8 → p + 9 * k ≤ 72 → z_BdM M W.1 →
    match z_mnS sg k p M with
    | none => (∃ M' b' a', z_BdM M' b' ∧ f_Re_readMen_3 t W0 a0 (e9 + k + 1) (if k = 0 then -1 else nI (k - 1)) W (nI p) = (0, (b', W.2), a')) ∨
        (∃ M' b' a', z_BdM M' b' ∧ a' < 100 ∧ sg a' ≠ 32 ∧ f_Re_readMen_3 t W0 a0 (e9 + k + 1) (if k = 0 then -1 else nI (k - 1)) W (nI p) = (1, (b', W.2), nI a'))
    | some q => k = 0 ∨ (1 ≤ q.1 ∧ q.1 ≤ 72 ∧ sg (q.1 - 1) = 32 ∧ ∃ b', z_BdM q.2 b' ∧ f_Re_readMen_3 t W0 a0 (e9 + k + 1) (if k = 0 then -1 else nI (k - 1)) W (nI p) = (1, (b', W.2), nI (q.1 - 1))) := by
  intro k
  induction k with
  | zero => intro p M W e9 hk hp hB; rw [z_mnS]; exact .inl rfl
  | succ r ih =>
    intro p M W e9 hk hp hB
    have hr : r < 8 := by omega
    simp only [Nat.add_sub_cancel, Nat.add_eq_zero_iff, Nat.one_ne_zero, and_false, if_false, false_or]
    rw [z_mnS]
    have R := z_rank_7 hsg (W0 := W) (a0 := nI p) hr 9 p 0 false 0 M W (by omega) (by omega) (by omega) (by omega) hB
    have st : f_Re_readMen_3 t W0 a0 (e9 + (r + 1) + 1) (nI r) W (nI p) = f_Re_readMen_r9 (f_Re_readMen_3 t W0 a0 (e9 + r + 1)) t W0 a0 (nI r) W (nI p) (f_Re_readRank_7 t W (nI p) (nI r) 9 0 0 0 W (nI p)) := by
      rw [f_Re_readMen_3]; dsimp only
      rw [if_neg (by rw [show (0 : Int32) = nI 0 from rfl, z_nI_lt (by omega) (by omega)]; omega)]; rfl
    rw [st]
    simp only [Bool.false_eq_true, if_false, show nI 0 = 0 from rfl] at R
    cases hkk : z_rkS sg (8 * r) 9 p 0 false M with
    | none =>
      rw [hkk] at R
      dsimp only at R ⊢
      obtain ⟨M', b', a', h1, h2⟩ := R
      left
      exact ⟨M', b', a', h1, by rw [h2, f_Re_readMen_r9, if_pos rfl]⟩
    | some q =>
      rw [hkk] at R
      dsimp only at R ⊢
      obtain ⟨b', h1, h2⟩ := R
      have pe := z_rkS_end _ _ _ _ _ _ (by omega) hkk
      have h10 : ¬ (1 : Int32) = 0 := by decide
      rw [h2, f_Re_readMen_r9]
      dsimp only
      rw [if_neg h10]
      by_cases r0 : r = 0
      · subst r0
        have l0 : nI 0 ≤ 0 := by decide
        simp only [Nat.lt_irrefl, if_false]
        have fin : f_Re_readMen_3 t W0 a0 (e9 + 0 + 1) (nI 0 + (-1)) (b', W.2) (nI q.1) = (1, (b', W.2), nI q.1) := by
          rw [f_Re_readMen_3]; dsimp only
          rw [if_pos (by decide)]
        rw [if_pos l0, fin]
        by_cases c : sg q.1 = 32
        · rw [if_pos c, z_mnS]
          dsimp only
          exact ⟨by omega, by omega, by rw [Nat.add_sub_cancel]; exact c, b', h1, by rw [Nat.add_sub_cancel]⟩
        · rw [if_neg c]
          dsimp only
          right
          exact ⟨q.2, b', q.1, h1, by omega, c, rfl⟩
      · have l0 : ¬ nI r ≤ 0 := by rw [show (0 : Int32) = nI 0 from rfl, z_nI_le (by omega) (by omega)]; omega
        have rp : 0 < r := by omega
        rw [if_neg l0, show (47 : Int32) = nI 47 from rfl, z_readOne_eq hsg (by omega) (by decide), if_pos rp]
        by_cases c : sg q.1 = 47
        · rw [if_pos c, if_pos c, f_Re_readMen_r22]
          dsimp only
          rw [if_neg h10]
          have vv : nI r + (-1) = nI (r - 1) := (by decide : ∀ r, r < 8 → r ≠ 0 → nI r + (-1) = nI (r - 1)) r hr r0
          have I := ih (q.1 + 1) q.2 (b', W.2) e9 (by omega) (by omega) h1
          rw [if_neg r0] at I
          rw [vv]
          cases hm : z_mnS sg r (q.1 + 1) q.2 with
          | none => rw [hm] at I; exact I
          | some k2 =>
            rw [hm] at I
            rcases I with g | g
            · exact absurd g r0
            · exact g
        · rw [if_neg c, if_neg c, f_Re_readMen_r22]
          dsimp only
          left
          exact ⟨q.2, b', nI q.1, h1, if_pos rfl⟩
def z_FailR (R : Int32 × St_Po × Int32) : Prop := ∃ M' W' a', z_BdM M' W'.1 ∧ R = (0, W', a')
set_option maxRecDepth 100000 in
theorem z_failR {M : Nat → Int32} {b : St_Bo} {x : Int32 × Int32 × Int32 × Int32 × Int32} {a : Int32} (hB : z_BdM M b) : z_FailR (0, (b, x), a) := ⟨M, (b, x), a, hB, rfl⟩
def z_ncS (sg : Nat → Nat) (p : Nat) : Option Nat × Nat :=
  if sg p = 48 then (some 0, p + 1)
  else if z_isDg (sg p) then
    if z_isDg (sg (p + 1)) then
      if z_isDg (sg (p + 2)) then (some (100 * (sg p - 48) + 10 * (sg (p + 1) - 48) + (sg (p + 2) - 48)), p + 3)
      else (some (10 * (sg p - 48) + (sg (p + 1) - 48)), p + 2)
    else (some (sg p - 48), p + 1)
  else (none, p)
set_option maxRecDepth 100000 in
theorem z_nc_nm (sg : Nat → Nat) (p : Nat) : match z_nmS sg p with
    | some c => z_ncS sg p = (some c.1, p + c.2)
    | none => z_ncS sg p = (none, p) ∨ z_isDg (sg (z_ncS sg p).2) := by
  unfold z_nmS z_ncS
  by_cases d0 : z_isDg (sg p)
  · rw [if_pos d0, if_pos d0]
    by_cases d1 : z_isDg (sg (p + 1))
    · rw [if_pos d1, if_pos d1]
      by_cases z : sg p = 48
      · rw [if_pos z, if_pos z]; exact .inr d1
      · rw [if_neg z, if_neg z]
        by_cases d2 : z_isDg (sg (p + 2))
        · rw [if_pos d2, if_pos d2]
          by_cases d3 : z_isDg (sg (p + 3))
          · rw [if_pos d3]; exact .inr d3
          · rw [if_neg d3]
        · rw [if_neg d2, if_neg d2]
    · rw [if_neg d1, if_neg d1]
      by_cases z : sg p = 48
      · rw [if_pos z, z]
      · rw [if_neg z]
  · rw [if_neg d0, if_neg d0]
    have z : ¬ sg p = 48 := fun e => d0 (by rw [e]; exact ⟨by decide, by decide⟩)
    rw [if_neg z]; exact .inl rfl
set_option maxRecDepth 100000 in
theorem z_readNumber_eq {t : St_Li} {sg : Nat → Nat} (hsg : z_SgC t sg) {p : Nat} (hp : p < 150) : f_Re_readNumber t (nI p) = ((match (z_ncS sg p).1 with | none => -1 | some v => nI v), nI (z_ncS sg p).2) ∧ (∀ v, (z_ncS sg p).1 = some v → v ≤ 999) ∧ (z_ncS sg p).2 ≤ p + 3 ∧ p ≤ (z_ncS sg p).2 := by
  have z_nx : ∀ q, q < 190 → f_Re_next t (nI q) = nI (sg q) := fun q hq => (hsg q (by omega)).1
  have lo : ∀ q, q < 190 → (f_Re_next t (nI q) < 48 ↔ sg q < 48) := fun q hq => by rw [z_nx q hq]; exact z_nI_lt (b := 48) (by have := (hsg q (by omega)).2; omega) (by omega)
  have hi : ∀ q, q < 190 → ((57 : Int32) < f_Re_next t (nI q) ↔ 57 < sg q) := fun q hq => by rw [z_nx q hq]; exact z_nI_lt (a := 57) (by omega) (by have := (hsg q (by omega)).2; omega)
  have stop : ∀ R n v k j q, q < 190 → j < 4 → (¬ z_isDg (sg q) ∨ 3 ≤ j) → f_Re_readNumber_17 t (nI p) R (n + 1) (nI v) (nI k) (nI j) (nI q) = f_Re_readNumber_72 t (nI p) R (nI v) (nI k) (nI j) (nI q) := by
    intro R n v k j q hq hj h
    rw [f_Re_readNumber_17]; dsimp only
    by_cases c : 3 ≤ j
    · have c' : (3 : Int32) ≤ nI j := (z_nI_le (a := 3) (by omega) (by omega)).mpr c
      rw [if_pos c']
    · have c' : ¬ (3 : Int32) ≤ nI j := fun g => c ((z_nI_le (a := 3) (by omega) (by omega)).mp g)
      rw [if_neg c']
      have h' : ¬ z_isDg (sg q) := h.resolve_right c
      by_cases c1 : sg q < 48
      · rw [if_pos ((lo q hq).mpr c1)]
      · rw [if_neg (fun g => c1 ((lo q hq).mp g)), if_pos ((hi q hq).mpr (by omega))]
  have go : ∀ R n v k j q, q < 190 → j < 3 → v ≤ 999 → z_isDg (sg q) → f_Re_readNumber_17 t (nI p) R (n + 1) (nI v) (nI k) (nI j) (nI q) = f_Re_readNumber_17 t (nI p) R n (nI (10 * v + (sg q - 48))) (nI (k + 1)) (nI (j + 1)) (nI (q + 1)) := by
    intro R n v k j q hq hj hv h
    rw [f_Re_readNumber_17]; dsimp only
    have c' : ¬ (3 : Int32) ≤ nI j := fun g => by have := (z_nI_le (a := 3) (by omega) (by omega)).mp g; omega
    rw [if_neg c', if_neg (by rw [lo q hq]; omega), if_neg (by rw [hi q hq]; omega), z_nx q hq]
    rw [show (10 : Int32) = nI 10 from rfl, z_nI_mul, z_nI_add, show (48 : Int32) = nI 48 from rfl, z_nI_sub (by omega) (by omega), show nI q + 1 = nI (q + 1) from z_nI_add q 1, show nI k + 1 = nI (k + 1) from z_nI_add k 1, show nI j + 1 = nI (j + 1) from z_nI_add j 1]
    congr 2; omega
  have fin : ∀ R v k j q, k < 4 → f_Re_readNumber_72 t (nI p) R (nI v) (nI k) (nI j) (nI q) = if k = 0 then (-1, nI q) else (nI v, nI q) := by
    intro R v k j q hk
    rw [f_Re_readNumber_72]
    have e : nI k = 0 ↔ k = 0 := z_nI_inj (b := 0) (by omega) (by omega)
    by_cases c : k = 0
    · rw [if_pos (e.mpr c), if_pos c]
    · rw [if_neg (fun g => c (e.mp g)), if_neg c]
  rw [f_Re_readNumber, show (48 : Int32) = nI 48 from rfl, z_readOne_eq hsg (by omega) (by decide), f_Re_readNumber_r3]
  unfold z_ncS
  by_cases z : sg p = 48
  · rw [if_pos z, if_pos z]
    have h10 : ¬ (1 : Int32) = 0 := by decide
    dsimp only
    rw [if_neg h10]
    exact ⟨rfl, fun v h => by cases h; omega, by omega, by omega⟩
  · rw [if_neg z, if_neg z]
    dsimp only
    rw [if_pos rfl, show (0 : Int32) = nI 0 from rfl]
    by_cases d0 : z_isDg (sg p)
    · rw [if_pos d0, go _ 3 0 0 0 p (by omega) (by omega) (by omega) d0]
      by_cases d1 : z_isDg (sg (p + 1))
      · rw [if_pos d1, go _ 2 _ _ _ (p + 1) (by omega) (by omega) (by omega) d1]
        by_cases d2 : z_isDg (sg (p + 2))
        · rw [if_pos d2, go _ 1 _ _ _ (p + 2) (by omega) (by omega) (by omega) d2, stop _ 0 _ _ _ (p + 2 + 1) (by omega) (by omega) (.inr (by omega)), fin _ _ _ _ _ (by omega), if_neg (by omega)]
          refine ⟨?_, fun v h => by cases h; omega, by omega, by omega⟩
          dsimp only; congr 2; omega
        · rw [if_neg d2, stop _ 1 _ _ _ (p + 1 + 1) (by omega) (by omega) (.inl d2), fin _ _ _ _ _ (by omega), if_neg (by omega)]
          refine ⟨?_, fun v h => by cases h; omega, by omega, by omega⟩
          dsimp only; congr 2; omega
      · rw [if_neg d1, stop _ 2 _ _ _ (p + 1) (by omega) (by omega) (.inl d1), fin _ _ _ _ _ (by omega), if_neg (by omega)]
        refine ⟨?_, fun v h => by cases h; omega, by omega, by omega⟩
        dsimp only; congr 2; omega
    · rw [if_neg d0, stop _ 3 _ _ _ p (by omega) (by omega) (.inl d0), fin _ _ _ _ _ (by omega), if_pos rfl]
      refine ⟨rfl, ?_, ?_, ?_⟩
      · intro v h; cases h
      · show p ≤ p + 3; omega
      · exact Nat.le_refl p
set_option maxRecDepth 100000 in
theorem z_r81 {t : St_Li} {n : Nat} {sg : Nat → Nat} (hn : n ≤ 100) (ht : t.2 = nI n) (hsg : z_SgC t sg) (hz : ∀ p, n ≤ p → sg p = 0) {W0 : St_Po} {a0 : Int32} {R1 R17 R33 R49 R65 : Int32 × St_Po × Int32} {R10 R26 R42 R58 R74 : Int32 × Int32} {M : Nat → Int32} {W : St_Po} (hB : z_BdM M W.1) {p : Nat} (hp : p < 110) :
    match z_nmS sg p with
    | none => z_FailR (f_Re_readAll_r81 t W0 a0 R1 R10 R17 R26 R33 R42 R49 R58 R65 R74 (f_Re_readMoveNumber t W (nI p)))
    | some d => if d.1 = 0 ∨ p + d.2 ≠ n then z_FailR (f_Re_readAll_r81 t W0 a0 R1 R10 R17 R26 R33 R42 R49 R58 R65 R74 (f_Re_readMoveNumber t W (nI p)))
        else f_Re_readAll_r81 t W0 a0 R1 R10 R17 R26 R33 R42 R49 R58 R65 R74 (f_Re_readMoveNumber t W (nI p)) = (1, (W.1, W.2.1, W.2.2.1, W.2.2.2.1, W.2.2.2.2.1, nI d.1), nI n) := by
  obtain ⟨e, h9, h3, hge⟩ := z_readNumber_eq hsg (p := p) (by omega)
  have nn := z_nc_nm sg p
  have h10 : ¬ (1 : Int32) = 0 := by decide
  have key : ∀ v q, z_ncS sg p = (some v, q) → f_Re_readAll_r81 t W0 a0 R1 R10 R17 R26 R33 R42 R49 R58 R65 R74 (f_Re_readMoveNumber t W (nI p)) = (if v = 0 ∨ q ≠ n then (0, (W.1, W.2.1, W.2.2.1, W.2.2.2.1, W.2.2.2.2.1, nI v), nI q) else (1, (W.1, W.2.1, W.2.2.1, W.2.2.2.1, W.2.2.2.2.1, nI v), nI q)) := by
    intro v q hv
    rw [hv] at e h9 h3
    have hv9 := h9 v rfl
    dsimp only at e h3
    rw [f_Re_readMoveNumber, e, f_Re_readMoveNumber_r5]
    dsimp only
    have e1 : nI v < 1 ↔ v < 1 := z_nI_lt (b := 1) (by omega) (by omega)
    by_cases c : v = 0
    · rw [if_pos (e1.mpr (by omega)), f_Re_readAll_r81]
      dsimp only
      rw [if_pos rfl, if_pos (.inl c)]
    · rw [if_neg (fun g => c (by have := e1.mp g; omega)), f_Re_readAll_r81]
      dsimp only
      have e2 : nI q = nI n ↔ q = n := z_nI_inj (by omega) (by omega)
      rw [if_neg h10, ht]
      by_cases c2 : q = n
      · rw [if_pos (e2.mpr c2), if_neg (fun g => by rcases g with g | g; exact c g; exact g c2)]
      · rw [if_neg (fun g => c2 (e2.mp g)), if_pos (.inr c2)]
  cases hm : z_nmS sg p with
  | none =>
    rw [hm] at nn
    dsimp only at nn ⊢
    rcases nn with g | g
    · rw [g] at e
      dsimp only at e
      rw [f_Re_readMoveNumber, e, f_Re_readMoveNumber_r5]
      dsimp only
      rw [if_pos (by decide), f_Re_readAll_r81]
      dsimp only
      rw [if_pos rfl]
      exact z_failR hB
    · cases hv : z_ncS sg p with
      | mk o q =>
        rw [hv] at g
        cases o with
        | none =>
          rw [hv] at e
          dsimp only at e
          rw [f_Re_readMoveNumber, e, f_Re_readMoveNumber_r5]
          dsimp only
          rw [if_pos (by decide), f_Re_readAll_r81]
          dsimp only
          rw [if_pos rfl]
          exact z_failR hB
        | some v =>
          rw [key v q hv]
          have qn : q ≠ n := by
            intro e0
            have := hz q (by omega)
            dsimp only at g
            rw [this] at g; exact absurd g.1 (by decide)
          rw [if_pos (.inr qn)]
          exact z_failR hB
  | some d =>
    rw [hm] at nn
    dsimp only at nn ⊢
    rw [key d.1 (p + d.2) nn]
    by_cases c : d.1 = 0 ∨ p + d.2 ≠ n
    · rw [if_pos c, if_pos c]; exact z_failR hB
    · rw [if_neg c, if_neg c, show p + d.2 = n from Decidable.not_not.mp (fun g => c (.inr g))]
set_option maxRecDepth 100000 in
theorem z_r58 {t : St_Li} {n : Nat} {sg : Nat → Nat} (hn : n ≤ 100) (ht : t.2 = nI n) (hsg : z_SgC t sg) (hz : ∀ p, n ≤ p → sg p = 0) {W0 : St_Po} {a0 : Int32} {R1 R17 R33 : Int32 × St_Po × Int32} {R10 R26 R42 : Int32 × Int32} {M : Nat → Int32} {W : St_Po} (hB : z_BdM M W.1) {p : Nat} (hp : p < 100) :
    match z_nsS sg n p with
    | none => z_FailR (f_Re_readAll_r49 t W0 a0 R1 R10 R17 R26 R33 R42 (1, W, nI p))
    | some x => f_Re_readAll_r49 t W0 a0 R1 R10 R17 R26 R33 R42 (1, W, nI p) = (1, (W.1, W.2.1, W.2.2.1, W.2.2.2.1, nI x.1, nI x.2), nI n) := by
  have h10 : ¬ (1 : Int32) = 0 := by decide
  unfold z_nsS
  rw [f_Re_readAll_r49]
  dsimp only
  rw [if_neg h10, show (32 : Int32) = nI 32 from rfl, z_readOne_eq hsg (by omega) (by decide)]
  by_cases c0 : sg p = 32
  · rw [if_pos c0, if_pos c0, f_Re_readAll_r58]
    dsimp only
    rw [if_neg h10]
    obtain ⟨e, h9, h3, hge⟩ := z_readNumber_eq hsg (p := p + 1) (by omega)
    have nn := z_nc_nm sg (p + 1)
    have key : ∀ v q, z_ncS sg (p + 1) = (some v, q) → f_Re_readClock t W (nI (p + 1)) = (1, (W.1, W.2.1, W.2.2.1, W.2.2.2.1, nI v, W.2.2.2.2.2), nI q) := by
      intro v q hv
      rw [hv] at e h9
      have hv9 := h9 v rfl
      dsimp only at e
      have e1 : ¬ nI v < 0 := by rw [show (0 : Int32) = nI 0 from rfl, z_nI_lt (by omega) (by omega)]; omega
      rw [f_Re_readClock, e, f_Re_readClock_r5]
      dsimp only
      rw [if_neg e1]
    have bad : ∀ q, z_ncS sg (p + 1) = (none, q) → z_FailR (f_Re_readAll_r65 t W0 a0 R1 R10 R17 R26 R33 R42 (1, W, nI p) (1, nI (p + 1)) (f_Re_readClock t W (nI (p + 1)))) := by
      intro q hv
      rw [hv] at e
      dsimp only at e
      rw [f_Re_readClock, e, f_Re_readClock_r5]
      dsimp only
      rw [if_pos (by decide), f_Re_readAll_r65]
      dsimp only
      rw [if_pos rfl]
      exact z_failR hB
    cases hm : z_nmS sg (p + 1) with
    | none =>
      rw [hm] at nn
      dsimp only at nn ⊢
      rcases nn with g | g
      · exact bad _ g
      · cases hv : z_ncS sg (p + 1) with
        | mk o q =>
          rw [hv] at g h3
          cases o with
          | none => exact bad q hv
          | some v =>
            rw [key v q hv, f_Re_readAll_r65]
            dsimp only at g h3 ⊢
            have q32 : ¬ sg q = 32 := fun e0 => by rw [e0] at g; exact absurd g.1 (by decide)
            rw [if_neg h10, show (32 : Int32) = nI 32 from rfl, z_readOne_eq hsg (by omega) (by decide), if_neg q32, f_Re_readAll_r74]
            dsimp only
            rw [if_pos rfl]
            exact z_failR hB
    | some c =>
      rw [hm] at nn
      dsimp only at nn ⊢
      rw [nn] at h3
      dsimp only at h3
      rw [key c.1 (p + 1 + c.2) nn, f_Re_readAll_r65]
      dsimp only
      rw [if_neg h10, show (32 : Int32) = nI 32 from rfl, z_readOne_eq hsg (by omega) (by decide)]
      by_cases c1 : sg (p + 1 + c.2) = 32
      · rw [if_pos c1, if_pos c1, f_Re_readAll_r74]
        dsimp only
        rw [if_neg h10]
        have L := z_r81 hn ht hsg hz (W0 := W0) (a0 := a0) (R1 := R1) (R10 := R10) (R17 := R17) (R26 := R26) (R33 := R33) (R42 := R42) (R49 := (1, W, nI p)) (R58 := (1, nI (p + 1))) (R65 := (1, (W.1, W.2.1, W.2.2.1, W.2.2.2.1, nI c.1, W.2.2.2.2.2), nI (p + 1 + c.2))) (R74 := (1, nI (p + 1 + c.2 + 1))) (W := (W.1, W.2.1, W.2.2.1, W.2.2.2.1, nI c.1, W.2.2.2.2.2)) (M := M) hB (p := p + 1 + c.2 + 1) (by omega)
        cases hm2 : z_nmS sg (p + 1 + c.2 + 1) with
        | none => rw [hm2] at L; exact L
        | some d =>
          rw [hm2] at L
          dsimp only at L ⊢
          by_cases c2 : d.1 = 0 ∨ p + 1 + c.2 + 1 + d.2 ≠ n
          · rw [if_pos c2] at L ⊢; exact L
          · rw [if_neg c2] at L ⊢; exact L
      · rw [if_neg c1, if_neg c1, f_Re_readAll_r74]
        dsimp only
        rw [if_pos rfl]
        exact z_failR hB
  · rw [if_neg c0, if_neg c0, f_Re_readAll_r58]
    dsimp only
    rw [if_pos rfl]
    exact z_failR hB
set_option maxRecDepth 100000 in
theorem z_r42 {t : St_Li} {n : Nat} {sg : Nat → Nat} (hn : n ≤ 100) (ht : t.2 = nI n) (hsg : z_SgC t sg) (hz : ∀ p, n ≤ p → sg p = 0) {W0 : St_Po} {a0 : Int32} {R1 R17 : Int32 × St_Po × Int32} {R10 R26 : Int32 × Int32} {M : Nat → Int32} {W : St_Po} (hB : z_BdM M W.1) (hps : W.2.2.2.1 = -1) {p : Nat} (hp : p < 97) :
    match z_psS sg n p with
    | none => z_FailR (f_Re_readAll_r33 t W0 a0 R1 R10 R17 R26 (1, W, nI p))
    | some x => f_Re_readAll_r33 t W0 a0 R1 R10 R17 R26 (1, W, nI p) = (1, (W.1, W.2.1, W.2.2.1, z_pI x.1, nI x.2.1, nI x.2.2), nI n) := by
  have h10 : ¬ (1 : Int32) = 0 := by decide
  have s1 := hsg (p + 1) (by omega)
  have s2 := hsg (p + 2) (by omega)
  have nx1 : f_Re_next t (nI (p + 1)) = nI (sg (p + 1)) := s1.1
  unfold z_psS
  rw [f_Re_readAll_r33]
  dsimp only
  rw [if_neg h10, show (32 : Int32) = nI 32 from rfl, z_readOne_eq hsg (by omega) (by decide)]
  by_cases c0 : sg p = 32
  · rw [if_pos c0, if_pos c0, f_Re_readAll_r42]
    dsimp only
    rw [if_neg h10, f_Re_readPassed, show (45 : Int32) = nI 45 from rfl, z_readOne_eq hsg (by omega) (by decide), f_Re_readPassed_r3]
    by_cases c1 : sg (p + 1) = 45
    · rw [if_pos c1, if_pos c1]
      dsimp only
      rw [if_neg h10]
      have L := z_r58 hn ht hsg hz (W0 := W0) (a0 := a0) (R1 := R1) (R10 := R10) (R17 := R17) (R26 := R26) (R33 := (1, W, nI p)) (R42 := (1, nI (p + 1))) (W := W) (M := M) hB (p := p + 2) (by omega)
      cases hm : z_nsS sg n (p + 2) with
      | none => rw [hm] at L; exact L
      | some x =>
        rw [hm] at L
        rw [hps] at L
        exact L
    · rw [if_neg c1, if_neg c1]
      dsimp only
      rw [if_pos rfl, nx1, show nI (p + 1) + 1 = nI (p + 2) from z_nI_add _ 1, show f_Li_at t.1 t.2 (nI (p + 2)) = nI (sg (p + 2)) from s2.1]
      have ob : ∀ c, c < 128 → (nI c - 97 < 0 ↔ c < 97) ∧ ((7 : Int32) < nI c - 97 ↔ 104 < c) ∧ (nI c - 49 < 0 ↔ c < 49) ∧ (nI c - 49 ≤ 7 ↔ c ≤ 56) := by decide +kernel
      obtain ⟨o1, o2, -, -⟩ := ob (sg (p + 1)) s1.2
      obtain ⟨-, -, o3, o4⟩ := ob (sg (p + 2)) s2.2
      have bad : z_FailR (f_Re_readAll_r49 t W0 a0 R1 R10 R17 R26 (1, W, nI p) (1, nI (p + 1)) (0, W, nI (p + 1))) := by
        rw [f_Re_readAll_r49]; dsimp only
        rw [if_pos rfl]; exact z_failR hB
      by_cases c2 : 97 ≤ sg (p + 1) ∧ sg (p + 1) ≤ 104 ∧ 49 ≤ sg (p + 2) ∧ sg (p + 2) ≤ 56
      · rw [if_pos c2]
        have z_g1 : ¬ nI (sg (p + 1)) - 97 < 0 := by rw [o1]; omega
        have z_g2 : ¬ (7 : Int32) < nI (sg (p + 1)) - 97 := by rw [o2]; omega
        have z_g3 : ¬ nI (sg (p + 2)) - 49 < 0 := by rw [o3]; omega
        have g4 : nI (sg (p + 2)) - 49 ≤ 7 := by rw [o4]; omega
        rw [if_neg z_g1, if_neg z_g2, if_neg z_g3, if_pos g4]
        have v : (nI (sg (p + 1)) - 97) + 8 * (nI (sg (p + 2)) - 49) = z_pI (8 * (sg (p + 2) - 49) + (sg (p + 1) - 97)) := by
          rw [show (49 : Int32) = nI 49 from rfl, show (97 : Int32) = nI 97 from rfl, z_nI_sub (by omega) (by omega), z_nI_sub (by omega) (by omega), show (8 : Int32) = nI 8 from rfl, z_nI_mul, z_nI_add, z_pI, if_pos (by omega)]; congr 1; omega
        rw [v, show nI (p + 1) + 2 = nI (p + 3) from z_nI_add _ 2]
        have L := z_r58 hn ht hsg hz (W0 := W0) (a0 := a0) (R1 := R1) (R10 := R10) (R17 := R17) (R26 := R26) (R33 := (1, W, nI p)) (R42 := (1, nI (p + 1))) (W := (W.1, W.2.1, W.2.2.1, z_pI (8 * (sg (p + 2) - 49) + (sg (p + 1) - 97)), W.2.2.2.2.1, W.2.2.2.2.2)) (M := M) hB (p := p + 3) (by omega)
        cases hm : z_nsS sg n (p + 3) with
        | none => rw [hm] at L; exact L
        | some x => rw [hm] at L; exact L
      · rw [if_neg c2]
        by_cases q1 : sg (p + 1) < 97
        · rw [if_pos (o1.mpr q1)]; exact bad
        · rw [if_neg (fun g => q1 (o1.mp g))]
          by_cases q2 : 104 < sg (p + 1)
          · rw [if_pos (o2.mpr q2)]; exact bad
          · rw [if_neg (fun g => q2 (o2.mp g))]
            by_cases q3 : sg (p + 2) < 49
            · rw [if_pos (o3.mpr q3)]; exact bad
            · rw [if_neg (fun g => q3 (o3.mp g)), if_neg (fun g => by have := o4.mp g; omega)]; exact bad
  · rw [if_neg c0, if_neg c0, f_Re_readAll_r42]
    dsimp only
    rw [if_pos rfl]
    exact z_failR hB
set_option maxRecDepth 100000 in
theorem z_rt_ch : ∀ k, k < 4 → f_Js_charAt 4 tRIGHTS (nI k) = nI (z_chK k) ∧ ¬ f_Js_length 4 tRIGHTS ≤ nI k ∧ f_Js_length 4 tRIGHTS ≤ nI 4 := by decide +kernel
set_option maxRecDepth 100000 in
theorem z_rgts_step {t : St_Li} {sg : Nat → Nat} (hsg : z_SgC t sg) {W0 : St_Po} {a0 : Int32} {R3 : Int32 × Int32} {W : St_Po} {p k w m : Nat} (hp : p < 150) (hk : k < 4) (hw : w < 16) (hW : W.2.2.1 = nI w) :
    f_Re_readRights_13 t W0 a0 R3 (m + 1) (nI k) W (nI p) = f_Re_readRights_13 t W0 a0 R3 m (nI (k + 1)) (W.1, W.2.1, nI (if sg p = z_chK k then w ||| 2 ^ k else w), W.2.2.2.1, W.2.2.2.2.1, W.2.2.2.2.2) (nI (if sg p = z_chK k then p + 1 else p)) := by
  have h10 : ¬ (1 : Int32) = 0 := by decide
  obtain ⟨c1, c2, -⟩ := z_rt_ch k hk
  rw [f_Re_readRights_13]; dsimp only
  rw [if_neg c2, c1, z_readOne_eq hsg (by omega) ((by decide : ∀ k, k < 4 → z_chK k < 128) k hk), f_Re_readRights_r29, hW, z_or_bit w hw k hk, show nI k + 1 = nI (k + 1) from z_nI_add k 1]
  by_cases c : sg p = z_chK k
  · rw [if_pos c, if_pos c, if_pos c]
    dsimp only
    rw [if_neg h10]
  · rw [if_neg c, if_neg c, if_neg c]
    dsimp only
    rw [if_pos rfl, ← hW]
set_option maxRecDepth 100000 in
theorem z_rgts_13 {t : St_Li} {sg : Nat → Nat} (hsg : z_SgC t sg) {W0 : St_Po} {a0 : Int32} {R3 : Int32 × Int32} {W : St_Po} {p : Nat} (hp : p < 90) (hW : W.2.2.1 = 0) :
    f_Re_readRights_13 t W0 a0 R3 5 0 W (nI p) = ((if (z_rtS sg p).1 = 0 then 0 else 1), (W.1, W.2.1, nI (z_rtS sg p).1, W.2.2.2.1, W.2.2.2.2.1, W.2.2.2.2.2), nI (z_rtS sg p).2) := by
  rw [show (0 : Int32) = nI 0 from rfl, z_rgts_step hsg (by omega) (by decide) (show 0 < 16 by decide) hW]
  generalize hp1 : (if sg p = z_chK 0 then p + 1 else p) = p1
  have b1 : p1 ≤ p + 1 := by rw [← hp1]; split <;> omega
  generalize hw1 : (if sg p = z_chK 0 then 0 ||| 2 ^ 0 else 0) = w1
  have l1 : w1 = (if sg p = 75 then 1 else 0) := by rw [← hw1]; rfl
  have z_g1 : w1 < 16 := by rw [l1]; split <;> decide
  rw [z_rgts_step hsg (p := p1) (by omega) (by decide) z_g1 rfl]
  generalize hp2 : (if sg p1 = z_chK (0 + 1) then p1 + 1 else p1) = p2
  have b2 : p2 ≤ p1 + 1 := by rw [← hp2]; split <;> omega
  generalize hw2 : (if sg p1 = z_chK (0 + 1) then w1 ||| 2 ^ (0 + 1) else w1) = w2
  have l2 : w2 = (if sg p = 75 then 1 else 0) + (if sg p1 = 81 then 2 else 0) := by
    rw [← hw2, l1, show z_chK (0 + 1) = 81 from rfl]; repeat' split
    all_goals rfl
  have z_g2 : w2 < 16 := by
    rw [l2]; repeat' split
    all_goals decide
  rw [z_rgts_step hsg (p := p2) (by omega) (by decide) z_g2 rfl]
  generalize hp3 : (if sg p2 = z_chK (0 + 1 + 1) then p2 + 1 else p2) = p3
  have b3 : p3 ≤ p2 + 1 := by rw [← hp3]; split <;> omega
  generalize hw3 : (if sg p2 = z_chK (0 + 1 + 1) then w2 ||| 2 ^ (0 + 1 + 1) else w2) = w3
  have l3 : w3 = (if sg p = 75 then 1 else 0) + (if sg p1 = 81 then 2 else 0) + (if sg p2 = 107 then 4 else 0) := by
    rw [← hw3, l2, show z_chK (0 + 1 + 1) = 107 from rfl]; repeat' split
    all_goals rfl
  have z_g3 : w3 < 16 := by
    rw [l3]; repeat' split
    all_goals decide
  rw [z_rgts_step hsg (p := p3) (by omega) (by decide) z_g3 rfl]
  generalize hp4 : (if sg p3 = z_chK (0 + 1 + 1 + 1) then p3 + 1 else p3) = p4
  generalize hw4 : (if sg p3 = z_chK (0 + 1 + 1 + 1) then w3 ||| 2 ^ (0 + 1 + 1 + 1) else w3) = w4
  have l4 : w4 = (if sg p = 75 then 1 else 0) + (if sg p1 = 81 then 2 else 0) + (if sg p2 = 107 then 4 else 0) + (if sg p3 = 113 then 8 else 0) := by
    rw [← hw4, l3, show z_chK (0 + 1 + 1 + 1) = 113 from rfl]; repeat' split
    all_goals rfl
  have er : z_rtS sg p = (w4, p4) := by
    unfold z_rtS
    dsimp only
    rw [show (if sg p = 75 then p + 1 else p) = p1 from hp1, show (if sg p1 = 81 then p1 + 1 else p1) = p2 from hp2, show (if sg p2 = 107 then p2 + 1 else p2) = p3 from hp3, show (if sg p3 = 113 then p3 + 1 else p3) = p4 from hp4, l4]
  have w16 : w4 < 16 := by
    rw [l4]; repeat' split
    all_goals decide
  rw [er, f_Re_readRights_13]; dsimp only
  have c4 : f_Js_length 4 tRIGHTS ≤ nI (0 + 1 + 1 + 1 + 1) := (z_rt_ch 0 (by decide)).2.2
  rw [if_pos c4]
  have e0 : nI w4 = 0 ↔ w4 = 0 := z_nI_inj (b := 0) (by omega) (by omega)
  by_cases c0 : w4 = 0
  · rw [if_pos (e0.mpr c0), if_pos c0]; rfl
  · have c0' : ¬ nI w4 = 0 := fun g => c0 (e0.mp g)
    rw [if_neg c0', if_neg c0]
set_option maxRecDepth 100000 in
theorem z_r26 {t : St_Li} {n : Nat} {sg : Nat → Nat} (hn : n ≤ 100) (ht : t.2 = nI n) (hsg : z_SgC t sg) (hz : ∀ p, n ≤ p → sg p = 0) {W0 : St_Po} {a0 a1 : Int32} {R1 : Int32 × St_Po × Int32} {R10 : Int32 × Int32} {M : Nat → Int32} {W : St_Po} (hB : z_BdM M W.1) (hrt : W.2.2.1 = 0) (hps : W.2.2.2.1 = -1) {p : Nat} (hp : p < 90) :
    match z_rsS sg n p with
    | none => z_FailR (f_Re_readAll_r26 t W0 a0 R1 R10 (1, W, a1) (1, nI p))
    | some x => f_Re_readAll_r26 t W0 a0 R1 R10 (1, W, a1) (1, nI p) = (1, (W.1, W.2.1, nI x.1, z_pI x.2.1, nI x.2.2.1, nI x.2.2.2), nI n) := by
  have h10 : ¬ (1 : Int32) = 0 := by decide
  unfold z_rsS
  rw [f_Re_readAll_r26]
  dsimp only
  rw [if_neg h10, f_Re_readRights, show (45 : Int32) = nI 45 from rfl, z_readOne_eq hsg (by omega) (by decide), f_Re_readRights_r3]
  by_cases c0 : sg p = 45
  · rw [if_pos c0, if_pos c0]
    dsimp only
    rw [if_neg h10]
    have L := z_r42 hn ht hsg hz (W0 := W0) (a0 := a0) (R1 := R1) (R10 := R10) (R17 := (1, W, a1)) (R26 := (1, nI p)) (W := W) (M := M) hB hps (p := p + 1) (by omega)
    cases hm : z_psS sg n (p + 1) with
    | none => rw [hm] at L; exact L
    | some x => rw [hm] at L; rw [hrt] at L; exact L
  · rw [if_neg c0, if_neg c0]
    dsimp only
    rw [if_pos rfl, z_rgts_13 hsg (by omega) hrt]
    have lt := z_rtS_lt sg p
    by_cases c1 : (z_rtS sg p).1 = 0
    · rw [if_pos c1, if_pos c1]
      dsimp only
      rw [f_Re_readAll_r33]
      dsimp only
      rw [if_pos rfl]
      exact z_failR hB
    · rw [if_neg c1, if_neg c1]
      have L := z_r42 hn ht hsg hz (W0 := W0) (a0 := a0) (R1 := R1) (R10 := R10) (R17 := (1, W, a1)) (R26 := (1, nI p)) (W := (W.1, W.2.1, nI (z_rtS sg p).1, W.2.2.2.1, W.2.2.2.2.1, W.2.2.2.2.2)) (M := M) hB hps (p := (z_rtS sg p).2) (by omega)
      cases hm : z_psS sg n (z_rtS sg p).2 with
      | none => rw [hm] at L; exact L
      | some x => rw [hm] at L; exact L
set_option maxRecDepth 100000 in
theorem z_side_ix : ∀ c, c < 128 → (0 ≤ f_Js_indexOf 2 tSIDE (toChar (nI c)) ↔ c = 119 ∨ c = 98) ∧ (c = 119 → f_Js_indexOf 2 tSIDE (toChar (nI c)) = nI 0) ∧ (c = 98 → f_Js_indexOf 2 tSIDE (toChar (nI c)) = nI 1) := by decide +kernel
set_option maxRecDepth 100000 in
theorem z_r10 {t : St_Li} {n : Nat} {sg : Nat → Nat} (hn : n ≤ 100) (ht : t.2 = nI n) (hsg : z_SgC t sg) (hz : ∀ p, n ≤ p → sg p = 0) {W0 : St_Po} {a0 a1 : Int32} {M : Nat → Int32} {W : St_Po} (hB : z_BdM M W.1) (hrt : W.2.2.1 = 0) (hps : W.2.2.2.1 = -1) {p : Nat} (hp : p ≤ 72) :
    match z_restS sg n p with
    | none => z_FailR (f_Re_readAll_r10 t W0 a0 (1, W, a1) (1, nI p))
    | some x => f_Re_readAll_r10 t W0 a0 (1, W, a1) (1, nI p) = (1, (W.1, nI x.1, nI x.2.1, z_pI x.2.2.1, nI x.2.2.2.1, nI x.2.2.2.2), nI n) := by
  have h10 : ¬ (1 : Int32) = 0 := by decide
  have s0 := hsg p (by omega)
  have nx0 : f_Re_next t (nI p) = nI (sg p) := s0.1
  obtain ⟨x1, x2, x3⟩ := z_side_ix (sg p) s0.2
  unfold z_restS
  rw [f_Re_readAll_r10]
  dsimp only
  rw [if_neg h10, f_Re_readSide, nx0, show nI p + 1 = nI (p + 1) from z_nI_add p 1]
  by_cases c0 : sg p = 119 ∨ sg p = 98
  · rw [if_pos (x1.mpr c0), f_Re_readAll_r17]
    dsimp only
    rw [if_neg h10, show (32 : Int32) = nI 32 from rfl, z_readOne_eq hsg (by omega) (by decide)]
    have ex : f_Js_indexOf 2 tSIDE (toChar (nI (sg p))) = nI (if sg p = 119 then 0 else 1) := by
      by_cases c : sg p = 119
      · rw [if_pos c]; exact x2 c
      · rw [if_neg c]; exact x3 (c0.resolve_left c)
    rw [ex]
    by_cases c1 : sg (p + 1) = 32
    · rw [if_pos c1, if_pos ⟨c0, c1⟩]
      have L := z_r26 hn ht hsg hz (W0 := W0) (a0 := a0) (a1 := nI (p + 1)) (R1 := (1, W, a1)) (R10 := (1, nI p)) (W := (W.1, nI (if sg p = 119 then 0 else 1), W.2.2.1, W.2.2.2.1, W.2.2.2.2.1, W.2.2.2.2.2)) (M := M) hB hrt hps (p := p + 2) (by omega)
      cases hm : z_rsS sg n (p + 2) with
      | none => rw [hm] at L; exact L
      | some x => rw [hm] at L; exact L
    · rw [if_neg c1, if_neg (fun g => c1 g.2), f_Re_readAll_r26]
      dsimp only
      rw [if_pos rfl]
      exact z_failR hB
  · rw [if_neg (fun g => c0 (x1.mp g)), if_neg (fun g => c0 g.1), f_Re_readAll_r17]
    dsimp only
    rw [if_pos rfl]
    exact z_failR hB
set_option maxRecDepth 100000 in
theorem z_readAll_eq {t : St_Li} {n : Nat} {sg : Nat → Nat} (hn : n ≤ 100) (ht : t.2 = nI n) (hsg : z_SgC t sg) (hz : ∀ p, n ≤ p → sg p = 0) {W : St_Po} (hB : z_BdM (fun _ => 0) W.1) (hrt : W.2.2.1 = 0) (hps : W.2.2.2.1 = -1) :
    match z_mnS sg 8 0 (fun _ => 0) with
    | none => z_FailR (f_Re_readAll t W 0)
    | some q => match z_restS sg n q.1 with
      | none => z_FailR (f_Re_readAll t W 0)
      | some x => ∃ b', z_BdM q.2 b' ∧ f_Re_readAll t W 0 = (1, (b', nI x.1, nI x.2.1, z_pI x.2.2.1, nI x.2.2.2.1, nI x.2.2.2.2), nI n) := by
  have h10 : ¬ (1 : Int32) = 0 := by decide
  have R := z_men_3 hsg (W0 := W) (a0 := 0) 8 0 (fun _ => 0) W 0 (Nat.le_refl _) (by omega) hB
  have st : f_Re_readMen t W 0 = f_Re_readMen_3 t W 0 (0 + 8 + 1) (nI 7) W (nI 0) := rfl
  simp only [show (if (8 : Nat) = 0 then (-1 : Int32) else nI (8 - 1)) = nI 7 from rfl] at R
  rw [← st] at R
  rw [f_Re_readAll]
  cases hm : z_mnS sg 8 0 (fun _ => 0) with
  | none =>
    rw [hm] at R
    dsimp only at R ⊢
    rcases R with ⟨M', b', a', h1, h2⟩ | ⟨M', b', a', h1, h3, h4, h2⟩
    · rw [h2, f_Re_readAll_r1]
      dsimp only
      rw [if_pos rfl]
      exact z_failR h1
    · rw [h2, f_Re_readAll_r1]
      dsimp only
      rw [if_neg h10, show (32 : Int32) = nI 32 from rfl, z_readOne_eq hsg (by omega) (by decide), if_neg h4, f_Re_readAll_r10]
      dsimp only
      rw [if_pos rfl]
      exact z_failR h1
  | some q =>
    rw [hm] at R
    dsimp only at R ⊢
    rcases R with g | ⟨q1, q2, q3, b', h1, h2⟩
    · omega
    · rw [h2, f_Re_readAll_r1]
      dsimp only
      rw [if_neg h10, show (32 : Int32) = nI 32 from rfl, z_readOne_eq hsg (by omega) (by decide), if_pos q3, show q.1 - 1 + 1 = q.1 by omega]
      have L := z_r10 hn ht hsg hz (W0 := W) (a0 := 0) (a1 := nI (q.1 - 1)) (W := (b', W.2)) (M := q.2) h1 hrt hps (p := q.1) q2
      cases hr : z_restS sg n q.1 with
      | none => rw [hr] at L; exact L
      | some x => rw [hr] at L; exact ⟨b', h1, L⟩

abbrev z_CIp (wm : Nat → Int32) (ws z_wr wp wc wn : Int32) (wl wk : Nat → Int32) (men : Nat → Int32) (sd rt ps ck nm d : Int32) (L : (Nat → Int32) × (Nat → Int32) × (Nat → Int32) × (Nat → Int32)) : Prop :=
  wm = men ∧ ws = sd ∧ z_wr = rt ∧ wp = ps ∧ wc = ck ∧ wn = nm ∧ wk d.toNatClampNeg = L.2.2.2 d.toNatClampNeg ∧ ∀ j, 2048 * d.toNatClampNeg ≤ j → j < 2048 * d.toNatClampNeg + 2048 → wl j = L.2.2.1 j
set_option maxRecDepth 100000 in
theorem z_ct_cnt {men : Nat → Int32} {sd rt ps ck nm d : Int32} {kM kR ls cs : Nat → Int32} {L : (Nat → Int32) × (Nat → Int32) × (Nat → Int32) × (Nat → Int32)} (hV : z_VP men sd rt ps ck nm) (hL : L = f_Mo_list men sd rt ps ck nm kM kR ls cs d) (hd : 0 ≤ d.toInt ∧ d.toInt ≤ 3) :
    0 ≤ (L.2.2.2 d.toNatClampNeg).toInt ∧ (L.2.2.2 d.toNatClampNeg).toInt ≤ 1792 := by
  have := z_list_cnt hV kM kR ls cs hd
  rw [← hL] at this; exact this
set_option maxRecDepth 100000 in
theorem z_ct_in {men : Nat → Int32} {sd rt ps ck nm d k : Int32} {kM kR ls cs wm wl wk : Nat → Int32} {ws z_wr wp wc wn : Int32} {L : (Nat → Int32) × (Nat → Int32) × (Nat → Int32) × (Nat → Int32)} (hV : z_VP men sd rt ps ck nm) (hL : L = f_Mo_list men sd rt ps ck nm kM kR ls cs d) (hd : 0 ≤ d.toInt ∧ d.toInt ≤ 3)
    (hC : z_CIp wm ws z_wr wp wc wn wl wk men sd rt ps ck nm d L) (h0 : 0 ≤ k.toInt) (h1 : ¬ wk d.toNatClampNeg ≤ k) : z_InL wm ws z_wr wp wc wn (wl ((2048 * d) + k).toNatClampNeg) := by
  obtain ⟨rfl, rfl, rfl, rfl, rfl, rfl, c1, c2⟩ := hC
  have b := z_ct_cnt hV hL hd
  rw [c1] at h1
  have hk : k.toInt < (L.2.2.2 d.toNatClampNeg).toInt := by
    rw [Int32.le_iff_toInt_le] at h1; omega
  have m := z_list_mem hV kM kR ls cs hd h0 (by rw [← hL]; exact hk)
  rw [← hL] at m
  have e : ((2048 * d) + k).toNatClampNeg = 2048 * d.toNatClampNeg + k.toInt.toNat := by
    obtain ⟨j, hj, rfl⟩ : ∃ j : Nat, j ≤ 3 ∧ d = nI j := ⟨d.toInt.toNat, by omega, z_of_nonneg hd.1⟩
    have hk2 := z_of_nonneg h0
    rw [hk2, z_nI_toInt (by omega)]
    rw [show (2048 : Int32) = nI 2048 from rfl, z_nI_mul, z_nI_add, z_nI_clamp (by omega), z_nI_clamp (by omega)]
    omega
  rw [e] at m ⊢
  rw [c2 _ (by omega) (by omega)]; exact m
set_option maxRecDepth 100000 in
theorem z_ct_ix {d k c : Int32} (hd : 0 ≤ d.toInt ∧ d.toInt ≤ 3) (h0 : 0 ≤ k.toInt) (h1 : ¬ c ≤ k) (hc : c.toInt ≤ 1792) : 0 ≤ k.toInt ∧ 2048 * d.toInt + k.toInt < 8192 := by
  rw [Int32.le_iff_toInt_le] at h1; omega
abbrev z_FRd (d : Nat) (kM kR ls cs kM' kR' ls' cs' : Nat → Int32) : Prop :=
  (∀ j, 64 * (d + 1) ≤ j → ¬ (256 ≤ j ∧ j < 320) → kM' j = kM j) ∧ (∀ j, 5 * (d + 1) ≤ j → ¬ (20 ≤ j ∧ j < 25) → kR' j = kR j) ∧ (∀ j, 2048 * (d + 1) ≤ j → ls' j = ls j) ∧ ∀ j, d + 1 ≤ j → cs' j = cs j
set_option maxRecDepth 100000 in
theorem z_FRd.rf (d : Nat) (kM kR ls cs : Nat → Int32) : z_FRd d kM kR ls cs kM kR ls cs := ⟨fun _ _ _ => rfl, fun _ _ _ => rfl, fun _ _ => rfl, fun _ _ => rfl⟩
set_option maxRecDepth 100000 in
theorem z_FRd.tr {d : Nat} {a b c e a1 b1 c1 e1 a2 b2 c2 e2 : Nat → Int32} (h : z_FRd d a b c e a1 b1 c1 e1) (g : z_FRd d a1 b1 c1 e1 a2 b2 c2 e2) : z_FRd d a b c e a2 b2 c2 e2 :=
  ⟨fun j x y => (g.1 j x y).trans (h.1 j x y), fun j x y => (g.2.1 j x y).trans (h.2.1 j x y), fun j x => (g.2.2.1 j x).trans (h.2.2.1 j x), fun j x => (g.2.2.2 j x).trans (h.2.2.2 j x)⟩
set_option maxRecDepth 100000 in
theorem z_FRd.up {d e : Nat} (hde : d ≤ e) {a b c f a1 b1 c1 f1 : Nat → Int32} (h : z_FRd d a b c f a1 b1 c1 f1) : z_FRd e a b c f a1 b1 c1 f1 :=
  ⟨fun j x y => h.1 j (by omega) y, fun j x y => h.2.1 j (by omega) y, fun j x => h.2.2.1 j (by omega), fun j x => h.2.2.2 j (by omega)⟩
set_option maxRecDepth 100000 in
theorem z_FRd_list {P : z_Pos} {d : Nat} (hd : d ≤ 3) {kM kR ls cs kM' kR' : Nat → Int32} (K : z_KR kM kR kM' kR') (hl : (z_all P).length ≤ 2048) (x : Int32) : z_FRd d kM kR ls cs kM' kR' (z_wr ls (2048 * d) (z_all P)) (upd cs d x) := by
  refine ⟨fun j a b => K.1 j b, fun j a b => K.2 j b, fun j a => ?_, fun j a => ?_⟩
  · unfold z_wr; rw [if_neg (by omega)]
  · rw [z_upd_ne _ (by omega)]
set_option maxRecDepth 100000 in
theorem z_FRd_keep {d : Nat} (hd : d ≤ 3) (kM kR ls cs men : Nat → Int32) (a b c e f : Int32) : z_FRd d kM kR ls cs (z_kept kM men d 0) (z_keptR kR d a b c e f) ls cs := by
  refine ⟨fun j x y => ?_, fun j x y => ?_, fun _ _ => rfl, fun _ _ => rfl⟩
  · unfold z_kept; rw [if_neg (by omega)]
  · unfold z_keptR; rw [z_upd_ne _ (by omega), z_upd_ne _ (by omega), z_upd_ne _ (by omega), z_upd_ne _ (by omega), z_upd_ne _ (by omega)]
set_option maxRecDepth 100000 in
theorem z_bring_frame {d : Nat} (hd1 : 1 ≤ d) (hd : d ≤ 3) {men M kM kR ls cs kM' kR' ls' cs' : Nat → Int32} {a b c e f s2 r2 p2 c2 n2 : Int32} (hM : ∀ j, 64 ≤ j → M j = men j)
    (F : z_FRd (d - 1) (z_kept kM men d 0) (z_keptR kR d a b c e f) ls cs kM' kR' ls' cs') : f_Mo_bringBack M s2 r2 p2 c2 n2 kM' kR' (nI d) = (men, a, b, c, e, f) := by
  rw [z_bring_eq _ _ _ _ _ _ _ _ (by omega)]
  obtain ⟨r0, r1, r3, r4, r5⟩ := z_keptR_get kR d a b c e f
  have k5 : ∀ j, 5 * d ≤ j → j < 5 * d + 5 → kR' j = z_keptR kR d a b c e f j := fun j h1 h2 => F.2.1 j (by omega) (by omega)
  rw [k5 (5 * d) (by omega) (by omega), k5 (5 * d + 1) (by omega) (by omega), k5 (5 * d + 2) (by omega) (by omega), k5 (5 * d + 3) (by omega) (by omega), k5 (5 * d + 4) (by omega) (by omega), r0, r1, r3, r4, r5]
  have : z_brought M kM' d 0 = men := by
    rw [← z_brought_kept (men := men) (M := M) (kM := kM) (lv := d) hM]
    funext j; unfold z_brought
    by_cases g : 0 ≤ j ∧ j < 64
    · rw [if_pos g, if_pos g, F.1 _ (by omega) (by omega)]
    · rw [if_neg g, if_neg g]
  rw [this]
set_option maxRecDepth 100000 in
theorem z_mkM_ge {P : z_Pos} (V : z_Val P) {m : Int32} (hm : m ∈ z_all P) {j : Nat} (hj : 64 ≤ j) : (z_mkM P m).men j = P.men j := by
  obtain ⟨fr, to, pr, hf, ht, ho, hg, hs, hpr, hp8, e, h0⟩ := z_leg_of V hm
  rw [e, z_mkM_mv hf ht hp8]
  exact z_mkMen_ge hf ht (z_ca_small V hf ht ho hg) hj
set_option maxRecDepth 100000 in
theorem z_ct_back {P : z_Pos} (V : z_Val P) {d : Nat} (hd1 : 1 ≤ d) (hd : d ≤ 3) {m : Int32} (hm : m ∈ z_all P) {kM kR wl wk kM' kR' wl' wk' : Nat → Int32}
    (F : z_FRd (d - 1) (z_kept kM P.men d 0) (z_keptR kR d (nI P.side) (nI P.rights) (z_pI P.passed) (nI P.clock) (nI P.number)) wl wk kM' kR' wl' wk') :
    f_Mo_bringBack (f_Mo_make P.men (nI P.side) (nI P.rights) (z_pI P.passed) (nI P.clock) (nI P.number) m).1 (f_Mo_make P.men (nI P.side) (nI P.rights) (z_pI P.passed) (nI P.clock) (nI P.number) m).2.1 (f_Mo_make P.men (nI P.side) (nI P.rights) (z_pI P.passed) (nI P.clock) (nI P.number) m).2.2.1 (f_Mo_make P.men (nI P.side) (nI P.rights) (z_pI P.passed) (nI P.clock) (nI P.number) m).2.2.2.1 (f_Mo_make P.men (nI P.side) (nI P.rights) (z_pI P.passed) (nI P.clock) (nI P.number) m).2.2.2.2.1 (f_Mo_make P.men (nI P.side) (nI P.rights) (z_pI P.passed) (nI P.clock) (nI P.number) m).2.2.2.2.2 kM' kR' (nI d) = (P.men, nI P.side, nI P.rights, z_pI P.passed, nI P.clock, nI P.number) := by
  obtain ⟨-, e⟩ := z_inL_make V hm
  rw [e]
  exact z_bring_frame hd1 hd (fun j hj => z_mkM_ge V hm hj) F
set_option maxRecDepth 100000 in
theorem z_ct_round {men : Nat → Int32} {sd rt ps ck nm d k : Int32} {kM kR ls cs wm wl wk wkM wkR kM' kR' wl' wk' : Nat → Int32} {ws z_wr wp wc wn : Int32} {L : (Nat → Int32) × (Nat → Int32) × (Nat → Int32) × (Nat → Int32)} {K : (Nat → Int32) × (Nat → Int32)} {M B : (Nat → Int32) × Int32 × Int32 × Int32 × Int32 × Int32}
    (hV : z_VP men sd rt ps ck nm) (hL : L = f_Mo_list men sd rt ps ck nm kM kR ls cs d) (hd : 1 ≤ d.toInt ∧ d.toInt ≤ 3)
    (hC : z_CIp wm ws z_wr wp wc wn wl wk men sd rt ps ck nm d L) (h0 : 0 ≤ k.toInt) (h1 : ¬ wk d.toNatClampNeg ≤ k) (hK : K = f_Mo_keep wm ws z_wr wp wc wn wkM wkR d) (hM : M = f_Mo_make wm ws z_wr wp wc wn (wl ((2048 * d) + k).toNatClampNeg))
    (hF : ∀ P, z_Val P → P.men = M.1 → nI P.side = M.2.1 → nI P.rights = M.2.2.1 → z_pI P.passed = M.2.2.2.1 → nI P.clock = M.2.2.2.2.1 → nI P.number = M.2.2.2.2.2 → z_FRd (d.toNatClampNeg - 1) K.1 K.2 wl wk kM' kR' wl' wk')
    (hB : B = f_Mo_bringBack M.1 M.2.1 M.2.2.1 M.2.2.2.1 M.2.2.2.2.1 M.2.2.2.2.2 kM' kR' d) : z_CIp B.1 B.2.1 B.2.2.1 B.2.2.2.1 B.2.2.2.2.1 B.2.2.2.2.2 wl' wk' men sd rt ps ck nm d L := by
  have hin := z_ct_in hV hL (by omega) hC h0 h1
  obtain ⟨rfl, rfl, rfl, rfl, rfl, rfl, c1, c2⟩ := hC
  obtain ⟨P, V, ⟨rfl, rfl, rfl, rfl, rfl, rfl⟩, hm⟩ := hin
  obtain ⟨j, hj1, hj, rfl⟩ : ∃ j : Nat, 1 ≤ j ∧ j ≤ 3 ∧ d = nI j := ⟨d.toInt.toNat, by omega, by omega, z_of_nonneg (by omega)⟩
  obtain ⟨V1, eM⟩ := z_inL_make V hm
  have F := hF (z_mkM P _) V1 (by rw [hM, eM]) (by rw [hM, eM]) (by rw [hM, eM]) (by rw [hM, eM]) (by rw [hM, eM]) (by rw [hM, eM])
  rw [z_keep_eq _ _ _ _ _ _ _ _ (by omega)] at hK
  rw [hK, z_nI_clamp (by omega)] at F
  have bk := z_ct_back V hj1 hj hm F
  rw [hB, hM, bk]
  unfold z_CIp
  rw [z_nI_clamp (by omega)] at c1 c2 ⊢
  exact ⟨rfl, rfl, rfl, rfl, rfl, rfl, (F.2.2.2 j (by omega)).trans c1, fun i a b => (F.2.2.1 i (by omega)).trans (c2 i a b)⟩

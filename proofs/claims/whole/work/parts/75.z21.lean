def z_txS (sg : Nat → Nat) (n : Nat) : Option z_Pos :=
  match z_mnS sg 8 0 (fun _ => 0) with
  | none => none
  | some q => match z_restS sg n q.1 with
    | none => none
    | some x => some (q.2, x.1, x.2.1, x.2.2.1, x.2.2.2.1, x.2.2.2.2)
set_option maxRecDepth 100000 in
theorem z_flt_ref {W : Nat → Int32} {s r p c k : Nat} (hs : s < 2) (hr : r < 16) (hp : p ≤ 64) {a b d e f : Int32} {typed : Int32} {text men : Nat → Int32} {x : Int32} :
    f_Mo_fault_r11 typed text men a b d e f (x, W) (1, nI s, nI r, z_pI p, nI c, nI k) = (nI (z_fltN (W, s, r, p, c, k)), W, nI s, nI r, z_pI p, nI c, nI k) := by
  have h10 : ¬ (1 : Int32) = 0 := by decide
  have k0 := z_countOf_K W (s := 0) (by decide)
  have k1 := z_countOf_K W (s := 1) (by decide)
  have pe := z_pawn_ref W
  have rr := z_rights_ref (W, s, r, p, c, k) hr
  have pr := z_passed_ref (W, s, r, p, c, k) hs hp
  rw [f_Mo_fault_r11]
  dsimp only
  rw [if_neg h10, show f_Mo_isRightWrong W (nI r) = _ from rr, show f_Mo_isPassedWrong W (nI s) (z_pI p) = _ from pr, pe]
  unfold z_fltN
  show _ = (nI (if (!(z_oneK W 0 && z_oneK W 1)) = true then 2 else if z_pawnE W = true then 3 else if z_chk W s = true then 4 else if (!(z_rtOk (W, s, r, p, c, k) 0 0 && z_rtOk (W, s, r, p, c, k) 0 1 && z_rtOk (W, s, r, p, c, k) 1 0 && z_rtOk (W, s, r, p, c, k) 1 1)) = true then 5 else if (!z_psOk (W, s, r, p, c, k)) = true then 6 else 0), _)
  cases o0 : z_oneK W 0
  · have : ¬ f_Mo_countOf W 6 = 1 := fun g => by rw [k0.mp g] at o0; cases o0
    rw [if_neg this]; rfl
  · have g0 : f_Mo_countOf W 6 = 1 := k0.mpr o0
    rw [if_pos g0]
    cases o1 : z_oneK W 1
    · have : ¬ f_Mo_countOf W 14 = 1 := fun g => by rw [k1.mp g] at o1; cases o1
      rw [if_neg this]; rfl
    · have z_g1 : f_Mo_countOf W 14 = 1 := k1.mpr o1
      rw [if_pos z_g1]
      have hK : ∃ j, z_isK W (1 - s) j := by
        have : s = 0 ∨ s = 1 := by omega
        rcases this with rfl | rfl
        · exact z_oneK_is o1
        · exact z_oneK_is o0
      obtain ⟨j, hj⟩ := hK
      have ic : f_Mo_inCheck W (1 - nI s) = if z_chk W s then 1 else 0 := by
        rw [z_side_flip hs, z_inCheck_eq (by omega) hj, z_chk_K hj, show 1 - (1 - s) = s by omega]
      rw [ic]
      cases z_pawnE W
      · cases z_chk W s
        · cases (z_rtOk (W, s, r, p, c, k) 0 0 && z_rtOk (W, s, r, p, c, k) 0 1 && z_rtOk (W, s, r, p, c, k) 1 0 && z_rtOk (W, s, r, p, c, k) 1 1)
          · rfl
          · cases z_psOk (W, s, r, p, c, k) <;> rfl
        · rfl
      · rfl
set_option maxRecDepth 100000 in
theorem z_fault_eq {n : Nat} {text : Nat → Int32} {sg : Nat → Nat} (hn : n ≤ 100) (hsg : z_SgOk (nI n) text sg) (men : Nat → Int32) (a b d e f : Int32) :
    ∃ W : Nat → Int32, (∀ j, 64 ≤ j → W j = men j) ∧ match z_txS sg n with
      | none => ∃ s r p c k, f_Mo_fault (nI n) text men a b d e f = (1, W, s, r, p, c, k)
      | some P => P.side < 2 ∧ P.rights < 16 ∧ P.passed ≤ 64 ∧ (∀ i, i < 64 → W i = P.men i) ∧ f_Mo_fault (nI n) text men a b d e f = (nI (z_fltN (W, P.2)), W, nI P.side, nI P.rights, z_pI P.passed, nI P.clock, nI P.number) := by
  obtain ⟨W, w1, w2⟩ := z_readMen_eq hsg men
  refine ⟨W, w1, ?_⟩
  unfold z_txS
  rw [f_Mo_fault]
  cases hm : z_mnS sg 8 0 (fun _ => 0) with
  | none =>
    rw [hm] at w2
    dsimp only at w2 ⊢
    rw [w2, f_Mo_fault_r1]
    dsimp only
    exact ⟨a, b, d, e, f, if_pos (by decide)⟩
  | some q =>
    rw [hm] at w2
    dsimp only at w2 ⊢
    obtain ⟨q1, q2, q3⟩ := w2
    have q0 : 1 ≤ q.1 := by
      have hk := hm
      rw [z_mnS] at hk
      cases hr : z_rkS sg (8 * 7) 9 0 0 false (fun _ => 0) with
      | none => rw [hr] at hk; cases hk
      | some z =>
        rw [hr] at hk
        dsimp only at hk
        by_cases c : sg z.1 = (if 0 < 7 then 47 else 32)
        · rw [if_pos c] at hk
          have mono : ∀ r p M y, z_mnS sg r p M = some y → p ≤ y.1 := by
            intro r
            induction r with
            | zero => intro p M y h; rw [z_mnS] at h; cases h; exact Nat.le_refl _
            | succ r ih =>
              intro p M y h
              rw [z_mnS] at h
              cases hr2 : z_rkS sg (8 * r) 9 p 0 false M with
              | none => rw [hr2] at h; cases h
              | some v =>
                rw [hr2] at h
                dsimp only at h
                by_cases c9 : sg v.1 = (if 0 < r then 47 else 32)
                · rw [if_pos c9] at h
                  have := ih _ _ _ h
                  have := (z_rkS_pos _ _ _ _ _ _ hr2).1
                  omega
                · rw [if_neg c9] at h; cases h
          have := mono _ _ _ _ hk
          omega
        · rw [if_neg c] at hk; cases hk
    have nn : ¬ nI q.1 - 1 < 0 := by rw [show (1 : Int32) = nI 1 from rfl, z_nI_sub (by omega) (by omega), show (0 : Int32) = nI 0 from rfl, z_nI_lt (by omega) (by omega)]; omega
    rw [q3, f_Mo_fault_r1]
    dsimp only
    rw [if_neg nn]
    have R := z_readRest_eq hn hsg (a := a) (b := b) (c := d) (d := e) (e := f) q0 q1
    cases hr : z_restS sg n q.1 with
    | none =>
      rw [hr] at R
      dsimp only at R ⊢
      rw [f_Mo_fault_r11]
      dsimp only
      exact ⟨_, _, _, _, _, if_pos R⟩
    | some x =>
      rw [hr] at R
      dsimp only at R ⊢
      obtain ⟨r1, r2, r3, r4⟩ := R
      refine ⟨r1, r2, r3, q2, ?_⟩
      rw [r4]
      exact z_flt_ref r1 r2 r3

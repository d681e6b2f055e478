set_option maxRecDepth 100000 in
theorem z_st_L (men : Nat → Int32) (sd rt ps ck nm pl : Int32) (pm p1 p2 p3 : Nat → Int32) (pt : Nat → Int64) (kM kR ls cs : Nat → Int32) :
    (f_Mo_stands men sd rt ps ck nm pl pm p1 p2 p3 pt kM kR ls cs).2 = f_Mo_list men sd rt ps ck nm kM kR ls cs 0 := by
  unfold f_Mo_stands f_Mo_stands_r2
  repeat' split
  all_goals rfl
set_option maxRecDepth 100000 in
theorem z_pl_cnt {men : Nat → Int32} {sd rt ps ck nm pl : Int32} {pm p1 p2 p3 : Nat → Int32} {pt : Nat → Int64} {kM kR ls cs : Nat → Int32} {R : Int32 × (Nat → Int32) × (Nat → Int32) × (Nat → Int32) × (Nat → Int32)} (hV : z_VP men sd rt ps ck nm) (hR : R = f_Mo_stands men sd rt ps ck nm pl pm p1 p2 p3 pt kM kR ls cs) :
    0 ≤ (R.2.2.2.2 (0 : Int32).toNatClampNeg).toInt ∧ (R.2.2.2.2 (0 : Int32).toNatClampNeg).toInt ≤ 1792 := by
  have := z_list_cnt hV kM kR ls cs (d := 0) (by decide)
  rw [← z_st_L men sd rt ps ck nm pl pm p1 p2 p3 pt, ← hR] at this
  exact this
set_option maxRecDepth 100000 in
theorem z_pl_in {men : Nat → Int32} {sd rt ps ck nm pl : Int32} {pm p1 p2 p3 : Nat → Int32} {pt : Nat → Int64} {kM kR ls cs : Nat → Int32} {R : Int32 × (Nat → Int32) × (Nat → Int32) × (Nat → Int32) × (Nat → Int32)} {k m : Int32} (hV : z_VP men sd rt ps ck nm) (hR : R = f_Mo_stands men sd rt ps ck nm pl pm p1 p2 p3 pt kM kR ls cs)
    (h0 : 0 ≤ k.toInt) (h1 : ¬ R.2.2.2.2 (0 : Int32).toNatClampNeg ≤ k) (h2 : R.2.2.2.1 k.toNatClampNeg = m) : z_InL men sd rt ps ck nm m := by
  have hk : k.toInt < (R.2.2.2.2 (0 : Int32).toNatClampNeg).toInt := by
    rw [Int32.le_iff_toInt_le] at h1; omega
  have := z_list_mem hV kM kR ls cs (d := 0) (k := k) (by decide) h0 (by rw [← z_st_L men sd rt ps ck nm pl pm p1 p2 p3 pt, ← hR]; exact hk)
  rw [← z_st_L men sd rt ps ck nm pl pm p1 p2 p3 pt, ← hR, show ((2048 : Int32) * 0) = 0 from by decide, Int32.zero_add, h2] at this
  exact this

def z_tb (x : Int64) (q : Nat) : Bool := x.toBitVec.getLsbD q
set_option maxRecDepth 100000 in
theorem z_tb_ext {x y : Int64} (h : ∀ q, q < 64 → z_tb x q = z_tb y q) : x = y :=
  Int64.toBitVec_inj.mp (BitVec.eq_of_getLsbD_eq (fun i hi => h i hi))
set_option maxRecDepth 100000 in
theorem z_tb_ge (x : Int64) {q : Nat} (h : 64 ≤ q) : z_tb x q = false := BitVec.getLsbD_of_ge _ _ h
set_option maxRecDepth 100000 in
theorem z_tb_and (x y : Int64) (q : Nat) : z_tb (x &&& y) q = (z_tb x q && z_tb y q) := by
  simp [z_tb, Int64.toBitVec_and]
set_option maxRecDepth 100000 in
theorem z_tb_or (x y : Int64) (q : Nat) : z_tb (x ||| y) q = (z_tb x q || z_tb y q) := by
  simp [z_tb, Int64.toBitVec_or]
set_option maxRecDepth 100000 in
theorem z_tb_xor (x y : Int64) (q : Nat) : z_tb (x ^^^ y) q = (z_tb x q ^^ z_tb y q) := by
  simp [z_tb, Int64.toBitVec_xor]
set_option maxRecDepth 100000 in
theorem z_tb_zero (q : Nat) : z_tb 0 q = false := by simp [z_tb]
set_option maxRecDepth 100000 in
theorem z_tb_m1 {q : Nat} (h : q < 64) : z_tb (-1) q = true := by
  have : (-1 : Int64).toBitVec = BitVec.allOnes 64 := by decide
  rw [z_tb, this, BitVec.getLsbD_allOnes]; simp [h]
set_option maxRecDepth 100000 in
theorem z_tb_not (x : Int64) {q : Nat} (h : q < 64) : z_tb (x ^^^ (-1)) q = !z_tb x q := by
  rw [z_tb_xor, z_tb_m1 h]; simp
set_option maxRecDepth 100000 in
theorem z_k63 : ∀ k, k < 64 → ((nI k).toInt64 &&& 63).toBitVec.smod 64 = BitVec.ofNat 64 k := by decide +kernel
set_option maxRecDepth 100000 in
theorem z_k63u : ∀ k, k < 64 → (((nI k).toInt64.toUInt64 &&& Int64.toUInt64 63).toBitVec % 64).toNat = k := by decide +kernel
set_option maxRecDepth 100000 in
theorem z_tb_shl (x : Int64) {k : Nat} (hk : k < 64) {q : Nat} (hq : q < 64) : z_tb (shl64 x (nI k)) q = (decide (k ≤ q) && z_tb x (q - k)) := by
  have e : (shl64 x (nI k)).toBitVec = x.toBitVec <<< k := by
    rw [shl64, Int64.toBitVec_shiftLeft, z_k63 k hk]
    simp [Nat.mod_eq_of_lt (Nat.lt_trans hk (by decide : 64 < 2^64))]
  rw [z_tb, e, BitVec.getLsbD_shiftLeft]
  by_cases h : k ≤ q
  · simp [h, hq, z_tb, Nat.not_lt.mpr h]
  · simp [h, Nat.lt_of_not_le h]
set_option maxRecDepth 100000 in
theorem z_tb_ushr (x : Int64) {k : Nat} (hk : k < 64) (q : Nat) : z_tb (ushr64 x (nI k)) q = z_tb x (k + q) := by
  have e : (ushr64 x (nI k)).toBitVec = x.toBitVec >>> k := by
    have h1 : (ushr64 x (nI k)).toBitVec = (x.toUInt64 >>> ((nI k).toInt64.toUInt64 &&& Int64.toUInt64 63)).toBitVec := rfl
    rw [h1, UInt64.toBitVec_shiftRight]
    show x.toBitVec >>> (((nI k).toInt64.toUInt64 &&& Int64.toUInt64 63).toBitVec % 64) = _
    rw [BitVec.ushiftRight_eq', z_k63u k hk]
  rw [z_tb, e, BitVec.getLsbD_ushiftRight, z_tb]
def z_bt (q : Nat) : Int64 := shl64 1 (nI q)
set_option maxRecDepth 100000 in
theorem z_tb_one (q : Nat) : z_tb 1 q = decide (q = 0) := by
  have : (1 : Int64).toBitVec = 1#64 := by decide
  rw [z_tb, this]; simp [BitVec.getLsbD_one]
set_option maxRecDepth 100000 in
theorem z_tb_bt {k q : Nat} (hk : k < 64) (hq : q < 64) : z_tb (z_bt k) q = decide (q = k) := by
  rw [z_bt, z_tb_shl 1 hk hq, z_tb_one]
  by_cases h : q = k
  · simp [h]
  · by_cases h2 : k ≤ q
    · simp [h, h2]; omega
    · simp [h, h2]
set_option maxRecDepth 100000 in
theorem z_eq0_iff (x : Int64) : x = 0 ↔ ∀ q, q < 64 → z_tb x q = false :=
  ⟨fun h q _ => by rw [h, z_tb_zero], fun h => z_tb_ext (fun q hq => by rw [h q hq, z_tb_zero])⟩
def z_pcn (x : Nat) : Nat → Nat
  | 0 => 0
  | k + 1 => z_pcn x k + (x.testBit k).toNat
def z_pc (x : Int64) : Nat := z_pcn x.toBitVec.toNat 64
set_option maxRecDepth 100000 in
theorem z_tB_split {a x : Nat} (ha : a < 256) (q : Nat) : (a + 256 * x).testBit q = if q < 8 then a.testBit q else x.testBit (q - 8) := by
  have h := Nat.testBit_two_pow_mul_add (i := 8) x (b := a) (by simpa using ha) q
  rw [show a + 256 * x = 2 ^ 8 * x + a by omega, h]
set_option maxRecDepth 100000 in
theorem z_and_split {a c : Nat} (ha : a < 256) (hc : c < 256) (x m : Nat) : (a + 256 * x) &&& (c + 256 * m) = (a &&& c) + 256 * (x &&& m) := by
  apply Nat.eq_of_testBit_eq
  intro q
  have hac : a &&& c < 256 := Nat.lt_of_le_of_lt Nat.and_le_left ha
  rw [Nat.testBit_and, z_tB_split ha, z_tB_split hc, z_tB_split hac]
  split <;> simp [Nat.testBit_and]
set_option maxRecDepth 100000 in
theorem z_sh1_split {a : Nat} (ha : a < 256) (x m : Nat) : ((a + 256 * x) >>> 1) &&& (85 + 256 * m) = ((a >>> 1) &&& 85) + 256 * ((x >>> 1) &&& m) := by
  have h : (a + 256 * x) >>> 1 = (a / 2 + 128 * (x % 2)) + 256 * (x >>> 1) := by simp only [Nat.shiftRight_eq_div_pow]; omega
  have h2 : ∀ a, a < 256 → ∀ t, t < 2 → (a / 2 + 128 * t) &&& 85 = (a >>> 1) &&& 85 := by decide +kernel
  rw [h, z_and_split (by omega) (by omega), h2 a ha _ (by omega)]
set_option maxRecDepth 100000 in
theorem z_sh2_split {a : Nat} (ha : a < 256) (x m : Nat) : ((a + 256 * x) >>> 2) &&& (51 + 256 * m) = ((a >>> 2) &&& 51) + 256 * ((x >>> 2) &&& m) := by
  have h : (a + 256 * x) >>> 2 = (a / 4 + 64 * (x % 4)) + 256 * (x >>> 2) := by simp only [Nat.shiftRight_eq_div_pow]; omega
  have h2 : ∀ a, a < 256 → ∀ t, t < 4 → (a / 4 + 64 * t) &&& 51 = (a >>> 2) &&& 51 := by decide +kernel
  rw [h, z_and_split (by omega) (by omega), h2 a ha _ (by omega)]
def z_g1 (m x : Nat) : Nat := x - ((x >>> 1) &&& m)
def z_g2 (m x : Nat) : Nat := (x &&& m) + ((x >>> 2) &&& m)
def z_g3 (m x : Nat) : Nat := (x + (x >>> 4)) &&& m
set_option maxRecDepth 100000 in
theorem z_sh_le (x k m : Nat) : (x >>> k) &&& m ≤ x := Nat.le_trans Nat.and_le_left (Nat.shiftRight_le x k)
set_option maxRecDepth 100000 in
theorem z_g1_split {a : Nat} (ha : a < 256) (x m : Nat) : z_g1 (85 + 256 * m) (a + 256 * x) = z_g1 85 a + 256 * z_g1 m x := by
  have h1 := z_sh_le a 1 85
  have h2 := z_sh_le x 1 m
  rw [z_g1, z_sh1_split ha, z_g1, z_g1]
  generalize (a >>> 1) &&& 85 = u at *
  generalize (x >>> 1) &&& m = v at *
  omega
set_option maxRecDepth 100000 in
theorem z_g1b : ∀ a, a < 256 → z_g1 85 a < 256 := by decide +kernel
set_option maxRecDepth 100000 in
theorem z_g2_split {a : Nat} (ha : a < 256) (x m : Nat) : z_g2 (51 + 256 * m) (a + 256 * x) = z_g2 51 a + 256 * z_g2 m x := by
  rw [z_g2, z_sh2_split ha, z_and_split ha (by omega), z_g2, z_g2]; omega
set_option maxRecDepth 100000 in
theorem z_g2b : ∀ a, a < 256 → z_g2 51 (z_g1 85 a) < 256 ∧ z_g2 51 (z_g1 85 a) % 16 ≤ 4 ∧ z_g2 51 (z_g1 85 a) / 16 ≤ 4 := by decide +kernel
set_option maxRecDepth 100000 in
theorem z_and15 (y : Nat) : y &&& 15 = y % 16 := Nat.and_two_pow_sub_one_eq_mod y 4
set_option maxRecDepth 100000 in
theorem z_g3_split {a : Nat} (h1 : a % 16 ≤ 4) (h2 : a / 16 ≤ 4) (x m : Nat) (hx : x % 16 ≤ 4) : z_g3 (15 + 256 * m) (a + 256 * x) = (a % 16 + a / 16) + 256 * z_g3 m x := by
  rw [z_g3, z_g3]
  have e : (a + 256 * x) + (a + 256 * x) >>> 4 = (a + a / 16 + 16 * (x % 16)) + 256 * (x + x >>> 4) := by simp only [Nat.shiftRight_eq_div_pow]; omega
  rw [e, z_and_split (by omega) (by omega), z_and15]; omega
def z_s3 (a : Nat) : Nat := z_g2 51 (z_g1 85 a) % 16 + z_g2 51 (z_g1 85 a) / 16
set_option maxRecDepth 100000 in
theorem z_s3_pcn : ∀ a, a < 256 → z_s3 a = z_pcn a 8 := by decide +kernel
def z_tot (m1 m2 m3 x : Nat) : Nat := z_g3 m3 (z_g2 m2 (z_g1 m1 x))
set_option maxRecDepth 100000 in
theorem z_low16 {a : Nat} (ha : a < 256) (x m1 m2 : Nat) : z_g2 (51 + 256 * m2) (z_g1 (85 + 256 * m1) (a + 256 * x)) % 16 ≤ 4 := by
  rw [z_g1_split ha, z_g2_split (z_g1b a ha)]
  have := (z_g2b a ha).2.1
  omega
set_option maxRecDepth 100000 in
theorem z_tot_split {a : Nat} (ha : a < 256) (x m1 m2 m3 : Nat) (hx : z_g2 m2 (z_g1 m1 x) % 16 ≤ 4) :
    z_tot (85 + 256 * m1) (51 + 256 * m2) (15 + 256 * m3) (a + 256 * x) = z_s3 a + 256 * z_tot m1 m2 m3 x := by
  rw [z_tot, z_g1_split ha, z_g2_split (z_g1b a ha), z_g3_split (z_g2b a ha).2.1 (z_g2b a ha).2.2 _ _ hx, z_tot, z_s3]
set_option maxRecDepth 100000 in
theorem z_tot8 (a0 a1 a2 a3 a4 a5 a6 a7 : Nat) (h0 : a0 < 256) (h1 : a1 < 256) (h2 : a2 < 256) (h3 : a3 < 256) (h4 : a4 < 256) (h5 : a5 < 256) (h6 : a6 < 256) (h7 : a7 < 256) :
    z_tot 0x5555555555555555 0x3333333333333333 0x0f0f0f0f0f0f0f0f (a0 + 256 * (a1 + 256 * (a2 + 256 * (a3 + 256 * (a4 + 256 * (a5 + 256 * (a6 + 256 * (a7 + 256 * 0)))))))) =
    z_s3 a0 + 256 * (z_s3 a1 + 256 * (z_s3 a2 + 256 * (z_s3 a3 + 256 * (z_s3 a4 + 256 * (z_s3 a5 + 256 * (z_s3 a6 + 256 * (z_s3 a7 + 256 * 0))))))) := by
  have z : z_tot 0 0 0 0 = 0 := rfl
  rw [← z, ← z_tot_split h7 0 0 0 0 (by decide)]
  rw [← z_tot_split h6 _ _ _ _ (z_low16 h7 0 0 0), ← z_tot_split h5 _ _ _ _ (z_low16 h6 _ _ _), ← z_tot_split h4 _ _ _ _ (z_low16 h5 _ _ _), ← z_tot_split h3 _ _ _ _ (z_low16 h4 _ _ _), ← z_tot_split h2 _ _ _ _ (z_low16 h3 _ _ _), ← z_tot_split h1 _ _ _ _ (z_low16 h2 _ _ _), ← z_tot_split h0 _ _ _ _ (z_low16 h1 _ _ _), z]
set_option maxRecDepth 100000 in
theorem z_pcn_split {a x : Nat} (ha : a < 256) (k : Nat) : z_pcn (a + 256 * x) (8 + k) = z_pcn a 8 + z_pcn x k := by
  induction k with
  | zero =>
    have : ∀ j, j ≤ 8 → z_pcn (a + 256 * x) j = z_pcn a j := by
      intro j
      induction j with
      | zero => intro _; rfl
      | succ j ih => intro hj; rw [z_pcn, z_pcn, ih (by omega), z_tB_split ha, if_pos (by omega)]
    rw [this 8 (Nat.le_refl _)]; rfl
  | succ k ih =>
    show z_pcn (a + 256 * x) (8 + k) + ((a + 256 * x).testBit (8 + k)).toNat = z_pcn a 8 + (z_pcn x k + (x.testBit k).toNat)
    rw [ih, z_tB_split ha, if_neg (by omega), Nat.add_sub_cancel_left, Nat.add_assoc]
set_option maxRecDepth 100000 in
theorem z_pcn_le (x k : Nat) : z_pcn x k ≤ k := by
  induction k with
  | zero => exact Nat.le_refl 0
  | succ k ih => rw [z_pcn]; have := Bool.toNat_le (x.testBit k); omega
def z_fin8 (t : Nat) : Nat := let u := t + t / 256; let v := u + u / 65536; let w := v + v / 4294967296; w % 128
set_option maxRecDepth 100000 in
theorem z_fu (c0 c1 c2 c3 c4 c5 c6 c7 : Nat) (b0 : c0 ≤ 8) : (c0 + 256 * (c1 + 256 * (c2 + 256 * (c3 + 256 * (c4 + 256 * (c5 + 256 * (c6 + 256 * (c7 + 256 * 0)))))))) / 256 = c1 + 256 * (c2 + 256 * (c3 + 256 * (c4 + 256 * (c5 + 256 * (c6 + 256 * c7))))) := by
  generalize e : c1 + 256 * (c2 + 256 * (c3 + 256 * (c4 + 256 * (c5 + 256 * (c6 + 256 * c7))))) = t
  have : c1 + 256 * (c2 + 256 * (c3 + 256 * (c4 + 256 * (c5 + 256 * (c6 + 256 * (c7 + 256 * 0)))))) = t := by omega
  clear this e; omega
set_option maxRecDepth 100000 in
theorem z_fu2 (d0 d1 d2 d3 d4 d5 d6 d7 : Nat) (b0 : d0 ≤ 16) (b1 : d1 ≤ 16) : (d0 + 256 * (d1 + 256 * (d2 + 256 * (d3 + 256 * (d4 + 256 * (d5 + 256 * (d6 + 256 * d7))))))) / 65536 = d2 + 256 * (d3 + 256 * (d4 + 256 * (d5 + 256 * (d6 + 256 * d7)))) := by
  generalize d2 + 256 * (d3 + 256 * (d4 + 256 * (d5 + 256 * (d6 + 256 * d7)))) = t
  omega
set_option maxRecDepth 100000 in
theorem z_fu3 (d0 d1 d2 d3 d4 d5 d6 d7 : Nat) (b0 : d0 ≤ 32) (b1 : d1 ≤ 32) (b2 : d2 ≤ 32) (b3 : d3 ≤ 32) : (d0 + 256 * (d1 + 256 * (d2 + 256 * (d3 + 256 * (d4 + 256 * (d5 + 256 * (d6 + 256 * d7))))))) / 4294967296 = d4 + 256 * (d5 + 256 * (d6 + 256 * d7)) := by
  generalize d4 + 256 * (d5 + 256 * (d6 + 256 * d7)) = t
  omega
set_option maxRecDepth 100000 in
theorem z_fw1 (c0 c1 c2 c3 c4 c5 c6 c7 : Nat) : c0 + 256 * (c1 + 256 * (c2 + 256 * (c3 + 256 * (c4 + 256 * (c5 + 256 * (c6 + 256 * (c7 + 256 * 0))))))) + (c1 + 256 * (c2 + 256 * (c3 + 256 * (c4 + 256 * (c5 + 256 * (c6 + 256 * c7)))))) = (c0 + c1) + 256 * ((c1 + c2) + 256 * ((c2 + c3) + 256 * ((c3 + c4) + 256 * ((c4 + c5) + 256 * ((c5 + c6) + 256 * ((c6 + c7) + 256 * c7)))))) := by omega
set_option maxRecDepth 100000 in
theorem z_fw2 (c0 c1 c2 c3 c4 c5 c6 c7 : Nat) : (c0 + c1) + 256 * ((c1 + c2) + 256 * ((c2 + c3) + 256 * ((c3 + c4) + 256 * ((c4 + c5) + 256 * ((c5 + c6) + 256 * ((c6 + c7) + 256 * c7)))))) + ((c2 + c3) + 256 * ((c3 + c4) + 256 * ((c4 + c5) + 256 * ((c5 + c6) + 256 * ((c6 + c7) + 256 * c7))))) = (c0 + c1 + c2 + c3) + 256 * ((c1 + c2 + c3 + c4) + 256 * ((c2 + c3 + c4 + c5) + 256 * ((c3 + c4 + c5 + c6) + 256 * ((c4 + c5 + c6 + c7) + 256 * ((c5 + c6 + c7) + 256 * ((c6 + c7) + 256 * c7)))))) := by omega
set_option maxRecDepth 100000 in
theorem z_fin8_eq (c0 c1 c2 c3 c4 c5 c6 c7 : Nat) (b0 : c0 ≤ 8) (b1 : c1 ≤ 8) (b2 : c2 ≤ 8) (b3 : c3 ≤ 8) (b4 : c4 ≤ 8) (b5 : c5 ≤ 8) (b6 : c6 ≤ 8) (b7 : c7 ≤ 8) : z_fin8 (c0 + 256 * (c1 + 256 * (c2 + 256 * (c3 + 256 * (c4 + 256 * (c5 + 256 * (c6 + 256 * (c7 + 256 * 0)))))))) = c0 + c1 + c2 + c3 + c4 + c5 + c6 + c7 := by
  rw [z_fin8]
  simp only [z_fu c0 c1 c2 c3 c4 c5 c6 c7 b0, z_fw1, z_fu2 (c0 + c1) (c1 + c2) (c2 + c3) (c3 + c4) (c4 + c5) (c5 + c6) (c6 + c7) c7 (by omega) (by omega), z_fw2,
    z_fu3 (c0 + c1 + c2 + c3) (c1 + c2 + c3 + c4) (c2 + c3 + c4 + c5) (c3 + c4 + c5 + c6) (c4 + c5 + c6 + c7) (c5 + c6 + c7) (c6 + c7) c7 (by omega) (by omega) (by omega) (by omega)]
  generalize (c5 + c6 + c7) + 256 * ((c6 + c7) + 256 * c7) = t
  generalize (c1 + c2 + c3 + c4) + 256 * ((c2 + c3 + c4 + c5) + 256 * ((c3 + c4 + c5 + c6) + 256 * ((c4 + c5 + c6 + c7) + 256 * t))) = t2
  omega
set_option maxRecDepth 100000 in
theorem z_swar (x : Nat) (hx : x < 2 ^ 64) : z_fin8 (z_tot 0x5555555555555555 0x3333333333333333 0x0f0f0f0f0f0f0f0f x) = z_pcn x 64 := by
  have e : x = x % 256 + 256 * (x / 256 % 256 + 256 * (x / 256 / 256 % 256 + 256 * (x / 256 / 256 / 256 % 256 + 256 * (x / 256 / 256 / 256 / 256 % 256 + 256 * (x / 256 / 256 / 256 / 256 / 256 % 256 + 256 * (x / 256 / 256 / 256 / 256 / 256 / 256 % 256 + 256 * (x / 256 / 256 / 256 / 256 / 256 / 256 / 256 + 256 * 0))))))) := by omega
  have l7 : x / 256 / 256 / 256 / 256 / 256 / 256 / 256 < 256 := by omega
  revert e l7
  generalize x / 256 / 256 / 256 / 256 / 256 / 256 / 256 = a7
  generalize h6 : x / 256 / 256 / 256 / 256 / 256 / 256 % 256 = a6
  generalize h5 : x / 256 / 256 / 256 / 256 / 256 % 256 = a5
  generalize h4 : x / 256 / 256 / 256 / 256 % 256 = a4
  generalize h3 : x / 256 / 256 / 256 % 256 = a3
  generalize h2 : x / 256 / 256 % 256 = a2
  generalize h1 : x / 256 % 256 = a1
  generalize h0 : x % 256 = a0
  have l0 : a0 < 256 := by omega
  have l1 : a1 < 256 := by omega
  have l2 : a2 < 256 := by omega
  have l3 : a3 < 256 := by omega
  have l4 : a4 < 256 := by omega
  have l5 : a5 < 256 := by omega
  have l6 : a6 < 256 := by omega
  clear h0 h1 h2 h3 h4 h5 h6
  intro e l7
  rw [e, z_tot8 a0 a1 a2 a3 a4 a5 a6 a7 l0 l1 l2 l3 l4 l5 l6 l7]
  rw [show (64 : Nat) = 8 + (8 + (8 + (8 + (8 + (8 + (8 + (8 + 0))))))) from rfl]
  rw [z_pcn_split l0, z_pcn_split l1, z_pcn_split l2, z_pcn_split l3, z_pcn_split l4, z_pcn_split l5, z_pcn_split l6, z_pcn_split l7]
  rw [z_s3_pcn a0 l0, z_s3_pcn a1 l1, z_s3_pcn a2 l2, z_s3_pcn a3 l3, z_s3_pcn a4 l4, z_s3_pcn a5 l5, z_s3_pcn a6 l6, z_s3_pcn a7 l7]
  have b0 := z_pcn_le a0 8; have b1 := z_pcn_le a1 8; have b2 := z_pcn_le a2 8; have b3 := z_pcn_le a3 8
  have b4 := z_pcn_le a4 8; have b5 := z_pcn_le a5 8; have b6 := z_pcn_le a6 8; have b7 := z_pcn_le a7 8
  generalize z_pcn a0 8 = c0 at *
  generalize z_pcn a1 8 = c1 at *
  generalize z_pcn a2 8 = c2 at *
  generalize z_pcn a3 8 = c3 at *
  generalize z_pcn a4 8 = c4 at *
  generalize z_pcn a5 8 = c5 at *
  generalize z_pcn a6 8 = c6 at *
  generalize z_pcn a7 8 = c7 at *
  rw [show z_pcn 0 0 = 0 from rfl]
  rw [z_fin8_eq c0 c1 c2 c3 c4 c5 c6 c7 b0 b1 b2 b3 b4 b5 b6 b7]
  clear e hx
  omega
def z_nat (x : Int64) : Nat := x.toBitVec.toNat
set_option maxRecDepth 100000 in
theorem z_nat_lt (x : Int64) : z_nat x < 2 ^ 64 := x.toBitVec.isLt
set_option maxRecDepth 100000 in
theorem z_nat_and (x y : Int64) : z_nat (x &&& y) = z_nat x &&& z_nat y := by simp [z_nat, Int64.toBitVec_and]
set_option maxRecDepth 100000 in
theorem z_nat_sub (x y : Int64) (h : z_nat y ≤ z_nat x) : z_nat (x - y) = z_nat x - z_nat y := by
  have := z_nat_lt x
  simp only [z_nat, Int64.toBitVec_sub, BitVec.toNat_sub] at *; omega
set_option maxRecDepth 100000 in
theorem z_nat_add (x y : Int64) (h : z_nat x + z_nat y < 2 ^ 64) : z_nat (x + y) = z_nat x + z_nat y := by
  simp only [z_nat, Int64.toBitVec_add, BitVec.toNat_add] at *; exact Nat.mod_eq_of_lt h
set_option maxRecDepth 100000 in
theorem z_nat_ushr (x : Int64) {k : Nat} (hk : k < 64) : z_nat (ushr64 x (nI k)) = z_nat x >>> k := by
  have h1 : (ushr64 x (nI k)).toBitVec = (x.toUInt64 >>> ((nI k).toInt64.toUInt64 &&& Int64.toUInt64 63)).toBitVec := rfl
  rw [z_nat, h1, UInt64.toBitVec_shiftRight]
  show (x.toBitVec >>> (((nI k).toInt64.toUInt64 &&& Int64.toUInt64 63).toBitVec % 64)).toNat = _
  rw [BitVec.ushiftRight_eq', z_k63u k hk]; rfl
set_option maxRecDepth 100000 in
theorem z_and127 (y : Nat) : y &&& 127 = y % 128 := Nat.and_two_pow_sub_one_eq_mod y 7
set_option maxRecDepth 100000 in
theorem z_low7 (x : Int64) : x.toInt32 &&& 127 = nI (z_nat x % 128) := by
  apply Int32.toBitVec_inj.mp
  apply BitVec.eq_of_toNat_eq
  rw [Int32.toBitVec_and, BitVec.toNat_and]
  have h1 : x.toInt32.toBitVec.toNat = z_nat x % 2 ^ 32 := by
    have : x.toInt32.toBitVec = x.toBitVec.setWidth 32 := (show x.toInt32.toBitVec = x.toBitVec.signExtend 32 from rfl).trans (BitVec.signExtend_eq_setWidth_of_le _ (by decide))
    rw [this, BitVec.toNat_setWidth]; rfl
  have h2 : (127 : Int32).toBitVec.toNat = 127 := by decide
  have h3 : (nI (z_nat x % 128)).toBitVec.toNat = z_nat x % 128 % 2 ^ 32 := by
    have : (nI (z_nat x % 128)).toBitVec = BitVec.ofNat 32 (z_nat x % 128) := rfl
    rw [this, BitVec.toNat_ofNat]
  rw [h1, h2, h3, z_and127]
  omega
set_option maxRecDepth 100000 in
theorem z_bitCount_eq (i : Int64) : f_Lo_bitCount i = nI (z_pc i) := by
  unfold f_Lo_bitCount
  generalize ha : i - ((ushr64 i 1) &&& 6148914691236517205) = a
  generalize hb : (a &&& 3689348814741910323) + ((ushr64 a 2) &&& 3689348814741910323) = b
  generalize hc : (b + (ushr64 b 4)) &&& 1085102592571150095 = c
  generalize hd : c + (ushr64 c 8) = d
  generalize he : d + (ushr64 d 16) = e
  generalize hf : e + (ushr64 e 32) = f
  have k1 : z_nat 6148914691236517205 = 0x5555555555555555 := by decide
  have k2 : z_nat 3689348814741910323 = 0x3333333333333333 := by decide
  have k3 : z_nat 1085102592571150095 = 0x0f0f0f0f0f0f0f0f := by decide
  have u1 : ∀ x, z_nat (ushr64 x 1) = z_nat x >>> 1 := fun x => z_nat_ushr x (k := 1) (by decide)
  have u2 : ∀ x, z_nat (ushr64 x 2) = z_nat x >>> 2 := fun x => z_nat_ushr x (k := 2) (by decide)
  have u4 : ∀ x, z_nat (ushr64 x 4) = z_nat x >>> 4 := fun x => z_nat_ushr x (k := 4) (by decide)
  have u8 : ∀ x, z_nat (ushr64 x 8) = z_nat x >>> 8 := fun x => z_nat_ushr x (k := 8) (by decide)
  have u16 : ∀ x, z_nat (ushr64 x 16) = z_nat x >>> 16 := fun x => z_nat_ushr x (k := 16) (by decide)
  have u32 : ∀ x, z_nat (ushr64 x 32) = z_nat x >>> 32 := fun x => z_nat_ushr x (k := 32) (by decide)
  have na : z_nat a = z_g1 0x5555555555555555 (z_nat i) := by
    rw [← ha, z_nat_sub _ _ (by rw [z_nat_and, u1, k1]; exact z_sh_le _ _ _), z_nat_and, u1, k1]; rfl
  have nb : z_nat b = z_g2 0x3333333333333333 (z_nat a) := by
    have l1 : z_nat a &&& 0x3333333333333333 ≤ 0x3333333333333333 := Nat.and_le_right
    have l2 : (z_nat a >>> 2) &&& 0x3333333333333333 ≤ 0x3333333333333333 := Nat.and_le_right
    rw [← hb, z_nat_add _ _ (by rw [z_nat_and, z_nat_and, u2, k2]; omega), z_nat_and, z_nat_and, u2, k2]; rfl
  have lb : z_nat b ≤ 0x6666666666666666 := by
    have l1 : z_nat a &&& 0x3333333333333333 ≤ 0x3333333333333333 := Nat.and_le_right
    have l2 : (z_nat a >>> 2) &&& 0x3333333333333333 ≤ 0x3333333333333333 := Nat.and_le_right
    rw [nb, z_g2]; omega
  have nc : z_nat c = z_g3 0x0f0f0f0f0f0f0f0f (z_nat b) := by
    rw [← hc, z_nat_and, z_nat_add _ _ (by rw [u4, Nat.shiftRight_eq_div_pow]; omega), u4, k3]; rfl
  have lc : z_nat c ≤ 0x0f0f0f0f0f0f0f0f := by rw [nc, z_g3]; exact Nat.and_le_right
  have nd : z_nat d = z_nat c + z_nat c / 256 := by
    rw [← hd, z_nat_add _ _ (by rw [u8, Nat.shiftRight_eq_div_pow]; omega), u8, Nat.shiftRight_eq_div_pow]
  have ne : z_nat e = z_nat d + z_nat d / 65536 := by
    rw [← he, z_nat_add _ _ (by rw [u16, Nat.shiftRight_eq_div_pow]; omega), u16, Nat.shiftRight_eq_div_pow]
  have nf : z_nat f = z_nat e + z_nat e / 4294967296 := by
    rw [← hf, z_nat_add _ _ (by rw [u32, Nat.shiftRight_eq_div_pow]; omega), u32, Nat.shiftRight_eq_div_pow]
  have hh := z_swar (z_nat i) (z_nat_lt i)
  rw [z_low7, nf, ne, nd, nc, nb, na]
  exact congrArg nI hh
def z_sq (x : Int64) : List Nat := (List.range 64).filter (z_tb x)
set_option maxRecDepth 100000 in
theorem z_filter_cons_sorted (p : Nat → Bool) : ∀ (L : List Nat), L.Pairwise (· < ·) → ∀ q l, L.filter p = q :: l →
    q ∈ L ∧ p q = true ∧ (∀ r ∈ L, r < q → p r = false) ∧ l = L.filter (fun r => p r && decide (r ≠ q)) := by
  intro L
  induction L with
  | nil => intro _ q l h; cases h
  | cons a L ih =>
    intro hp q l h
    rw [List.pairwise_cons] at hp
    by_cases ha : p a = true
    · rw [List.filter_cons_of_pos ha] at h
      obtain ⟨rfl, rfl⟩ := List.cons.inj h
      refine ⟨List.mem_cons_self, ha, ?_, ?_⟩
      · intro r hr hlt
        rcases List.mem_cons.mp hr with rfl | hr
        · omega
        · have := hp.1 r hr; omega
      · rw [List.filter_cons_of_neg (by simp)]
        apply List.filter_congr
        intro r hr
        have := hp.1 r hr
        have : r ≠ a := by omega
        simp [this]
    · rw [List.filter_cons_of_neg ha] at h
      obtain ⟨h1, h2, h3, h4⟩ := ih hp.2 q l h
      refine ⟨List.mem_cons_of_mem _ h1, h2, ?_, ?_⟩
      · intro r hr hlt
        rcases List.mem_cons.mp hr with rfl | hr
        · simpa using ha
        · exact h3 r hr hlt
      · rw [List.filter_cons_of_neg (by simp [ha])]; exact h4
set_option maxRecDepth 100000 in
theorem z_sq_cons {x : Int64} {q : Nat} {l : List Nat} (h : z_sq x = q :: l) :
    q < 64 ∧ z_tb x q = true ∧ (∀ r, r < q → z_tb x r = false) ∧ l = (List.range 64).filter (fun r => z_tb x r && decide (r ≠ q)) := by
  obtain ⟨h1, h2, h3, h4⟩ := z_filter_cons_sorted (z_tb x) (List.range 64) List.pairwise_lt_range q l h
  have hq : q < 64 := List.mem_range.mp h1
  exact ⟨hq, h2, fun r hr => h3 r (List.mem_range.mpr (by omega)) hr, h4⟩
set_option maxRecDepth 100000 in
theorem z_sq_nil_iff (x : Int64) : z_sq x = [] ↔ x = 0 := by
  rw [z_eq0_iff, z_sq, List.filter_eq_nil_iff]
  constructor
  · intro h q hq; simpa using h q (List.mem_range.mpr hq)
  · intro h q hq; simpa using h q (List.mem_range.mp hq)
set_option maxRecDepth 100000 in
theorem z_mem_sq {x : Int64} {q : Nat} : q ∈ z_sq x ↔ q < 64 ∧ z_tb x q = true := by
  rw [z_sq, List.mem_filter, List.mem_range]
set_option maxRecDepth 100000 in
theorem z_pcn_len (x : Nat) (k : Nat) : z_pcn x k = ((List.range k).filter (fun q => x.testBit q)).length := by
  induction k with
  | zero => rfl
  | succ k ih =>
    rw [List.range_succ, List.filter_append, List.length_append, z_pcn, ih]
    cases h : x.testBit k <;> simp [h]
set_option maxRecDepth 100000 in
theorem z_pc_len (x : Int64) : z_pc x = (z_sq x).length := z_pcn_len _ 64
set_option maxRecDepth 100000 in
theorem z_pc_le (x : Int64) : z_pc x ≤ 64 := z_pcn_le _ 64
set_option maxRecDepth 100000 in
theorem z_bit_sub_one {n q : Nat} (h1 : n.testBit q = true) (h2 : ∀ r, r < q → n.testBit r = false) (r : Nat) :
    (n - 1).testBit r = if r < q then true else if r = q then false else n.testBit r := by
  have hm : n % 2 ^ q = 0 := by
    apply Nat.eq_of_testBit_eq
    intro i
    rw [Nat.testBit_mod_two_pow]
    by_cases hi : i < q
    · simp [hi, h2 i hi]
    · simp [hi]
  have ho : n / 2 ^ q % 2 = 1 := by
    rw [Nat.testBit_eq_decide_div_mod_eq] at h1; simpa using h1
  have e0 : n = 2 ^ (q + 1) * (n / 2 ^ q / 2) + 2 ^ q := by
    have a1 := Nat.div_add_mod n (2 ^ q)
    have a2 := Nat.div_add_mod (n / 2 ^ q) 2
    rw [hm] at a1; rw [ho] at a2
    rw [Nat.pow_succ, Nat.mul_assoc]
    generalize n / 2 ^ q = y at *
    generalize y / 2 = z at *
    rw [← a1, ← a2]
    rw [Nat.mul_add, Nat.mul_one]; rfl
  have hp : 0 < 2 ^ q := Nat.two_pow_pos q
  have e1 : n - 1 = 2 ^ (q + 1) * (n / 2 ^ q / 2) + (2 ^ q - 1) := by omega
  have hl : 2 ^ q - 1 < 2 ^ (q + 1) := by rw [Nat.pow_succ]; omega
  have hl2 : 2 ^ q < 2 ^ (q + 1) := by rw [Nat.pow_succ]; omega
  have t1 := Nat.testBit_two_pow_mul_add (n / 2 ^ q / 2) hl r
  have t2 := Nat.testBit_two_pow_mul_add (n / 2 ^ q / 2) hl2 r
  rw [← e1] at t1
  rw [← e0] at t2
  rw [t1, t2, Nat.testBit_two_pow_sub_one]
  by_cases hr : r < q
  · simp [hr, Nat.lt_succ_of_lt hr]
  · by_cases hr2 : r = q
    · simp [hr2]
    · have : ¬ r < q + 1 := by omega
      simp [hr, hr2, this]
set_option maxRecDepth 100000 in
theorem z_nat_one : z_nat 1 = 1 := by decide
set_option maxRecDepth 100000 in
theorem z_tb_nat (x : Int64) (q : Nat) : z_tb x q = (z_nat x).testBit q := rfl
set_option maxRecDepth 100000 in
theorem z_nat_pos {x : Int64} {q : Nat} (h : z_tb x q = true) : 1 ≤ z_nat x := by
  rcases Nat.eq_zero_or_pos (z_nat x) with h0 | h0
  · rw [z_tb_nat, h0] at h; simp at h
  · exact h0
set_option maxRecDepth 100000 in
theorem z_tb_sub_one {x : Int64} {q : Nat} (h1 : z_tb x q = true) (h2 : ∀ r, r < q → z_tb x r = false) (r : Nat) :
    z_tb (x - 1) r = if r < q then true else if r = q then false else z_tb x r := by
  rw [z_tb_nat, z_nat_sub x 1 (by rw [z_nat_one]; exact z_nat_pos h1), z_nat_one]
  exact z_bit_sub_one h1 h2 r
set_option maxRecDepth 100000 in
theorem z_neg_eq (x : Int64) (h : 1 ≤ z_nat x) : -x = (x - 1) ^^^ (-1) := by
  apply Int64.toBitVec_inj.mp
  apply BitVec.eq_of_toNat_eq
  have a1 : (-x).toBitVec.toNat = 2 ^ 64 - z_nat x := by
    rw [Int64.toBitVec_neg, BitVec.toNat_neg]
    have := z_nat_lt x
    simp only [z_nat] at *; omega
  have m1 : (-1 : Int64).toBitVec = BitVec.allOnes 64 := by decide
  have a2 : ((x - 1) ^^^ (-1)).toBitVec.toNat = 2 ^ 64 - 1 - (z_nat x - 1) := by
    rw [Int64.toBitVec_xor, m1, BitVec.xor_allOnes, BitVec.toNat_not]
    have := z_nat_sub x 1 (by rw [z_nat_one]; exact h)
    rw [z_nat_one] at this
    rw [← this]; rfl
  rw [a1, a2]
  have := z_nat_lt x
  omega
set_option maxRecDepth 100000 in
theorem z_low_bit {x : Int64} {q : Nat} (hq : q < 64) (h1 : z_tb x q = true) (h2 : ∀ r, r < q → z_tb x r = false) : x &&& (-x) = z_bt q := by
  apply z_tb_ext
  intro r hr
  rw [z_neg_eq x (z_nat_pos h1), z_tb_and, z_tb_not _ hr, z_tb_sub_one h1 h2, z_tb_bt hq hr]
  by_cases a : r < q
  · simp [a, h2 r a]; omega
  · by_cases b : r = q
    · simp [b, h1]
    · simp [a, b]
set_option maxRecDepth 100000 in
theorem z_pcn_lt (n q : Nat) : (∀ r, n.testBit r = decide (r < q)) → ∀ k, z_pcn n k = min k q := by
  intro h k
  induction k with
  | zero => simp [z_pcn]
  | succ k ih =>
    rw [z_pcn, ih, h k]
    by_cases a : k < q
    · simp [a]; omega
    · simp [a]; omega
set_option maxRecDepth 100000 in
theorem z_lowest_eq {x : Int64} {q : Nat} {l : List Nat} (h : z_sq x = q :: l) : f_Ch_lowestSquare x = nI q := by
  obtain ⟨hq, h1, h2, -⟩ := z_sq_cons h
  rw [f_Ch_lowestSquare, z_bitCount_eq, z_low_bit hq h1 h2, z_pc]
  have b1 : z_tb (z_bt q) q = true := by rw [z_tb_bt hq hq]; simp
  have b2 : ∀ r, r < q → z_tb (z_bt q) r = false := fun r hr => by rw [z_tb_bt hq (by omega)]; simp; omega
  have : ∀ r, (z_nat (z_bt q - 1)).testBit r = decide (r < q) := by
    intro r
    have t := z_tb_sub_one b1 b2 r
    rw [z_tb_nat] at t
    rw [t]
    by_cases a : r < q
    · simp [a]
    · by_cases b : r = q
      · simp [b]
      · rw [if_neg a, if_neg b]
        by_cases c : r < 64
        · rw [z_tb_bt hq c]; simp [a, b]
        · rw [z_tb_ge _ (by omega)]; simp [a]
  rw [show z_pcn (z_bt q - 1).toBitVec.toNat 64 = q from (z_pcn_lt _ q this 64).trans (by omega)]
set_option maxRecDepth 100000 in
theorem z_rest_eq {x : Int64} {q : Nat} {l : List Nat} (h : z_sq x = q :: l) : z_sq (x &&& (x - 1)) = l := by
  obtain ⟨hq, h1, h2, h3⟩ := z_sq_cons h
  rw [h3, z_sq]
  apply List.filter_congr
  intro r hr
  rw [z_tb_and, z_tb_sub_one h1 h2]
  by_cases a : r < q
  · simp [a, h2 r a]
  · by_cases b : r = q
    · simp [b]
    · simp [a, b]
def z_nx (d q : Nat) : Nat :=
  if q < 64 then
    match d with
    | 0 => if q % 8 < 7 then q + 1 else 64
    | 1 => if 0 < q % 8 then q - 1 else 64
    | 2 => if q / 8 < 7 then q + 8 else 64
    | 3 => if 0 < q / 8 then q - 8 else 64
    | 4 => if q % 8 < 7 ∧ q / 8 < 7 then q + 9 else 64
    | 5 => if 0 < q % 8 ∧ q / 8 < 7 then q + 7 else 64
    | 6 => if q % 8 < 7 ∧ 0 < q / 8 then q - 7 else 64
    | _ => if 0 < q % 8 ∧ 0 < q / 8 then q - 9 else 64
  else 64
def z_op (d : Nat) : Nat := match d with
  | 0 => 1 | 1 => 0 | 2 => 3 | 3 => 2 | 4 => 7 | 5 => 6 | 6 => 5 | _ => 4
def z_it (d : Nat) : Nat → Nat → Nat
  | 0, q => q
  | k + 1, q => z_it d k (z_nx d q)
def z_dF (d : Nat) : Int32 := match d with
  | 0 => 1 | 1 => -1 | 2 => 0 | 3 => 0 | 4 => 1 | 5 => -1 | 6 => 1 | _ => -1
def z_dR (d : Nat) : Int32 := match d with
  | 0 => 0 | 1 => 0 | 2 => 1 | 3 => -1 | 4 => 1 | 5 => 1 | 6 => -1 | _ => -1
set_option maxRecDepth 100000 in
theorem z_nx_le (d q : Nat) : z_nx d q ≤ 64 := by
  unfold z_nx; split
  · split <;> split <;> omega
  · exact Nat.le_refl _
set_option maxRecDepth 100000 in
theorem z_nx_64 (d : Nat) : z_nx d 64 = 64 := by simp [z_nx]
set_option maxRecDepth 100000 in
theorem z_op_lt {d : Nat} (h : d < 8) : z_op d < 8 := (by decide : ∀ d, d < 8 → z_op d < 8) d h
set_option maxRecDepth 100000 in
theorem z_op_op {d : Nat} (h : d < 8) : z_op (z_op d) = d := (by decide : ∀ d, d < 8 → z_op (z_op d) = d) d h
set_option maxRecDepth 100000 in
theorem z_nx_op {d q : Nat} (hd : d < 8) (hq : q < 64) (h : z_nx d q < 64) : z_nx (z_op d) (z_nx d q) = q :=
  (by decide +kernel : ∀ d, d < 8 → ∀ q, q < 64 → z_nx d q < 64 → z_nx (z_op d) (z_nx d q) = q) d hd q hq h
set_option maxRecDepth 100000 in
theorem z_it_succ (d : Nat) : ∀ (k q : Nat), z_it d (k + 1) q = z_nx d (z_it d k q)
  | 0, _ => rfl
  | k + 1, q => z_it_succ d k (z_nx d q)
set_option maxRecDepth 100000 in
theorem z_it_64 (d : Nat) (k : Nat) : z_it d k 64 = 64 := by
  induction k with
  | zero => rfl
  | succ k ih => rw [z_it, z_nx_64, ih]
set_option maxRecDepth 100000 in
theorem z_it_le (d q : Nat) (hq : q ≤ 64) (k : Nat) : z_it d k q ≤ 64 := by
  cases k with
  | zero => exact hq
  | succ k => rw [z_it_succ]; exact z_nx_le _ _
set_option maxRecDepth 100000 in
theorem z_it_add (d : Nat) : ∀ (j k q : Nat), z_it d (j + k) q = z_it d k (z_it d j q)
  | 0, k, q => by rw [Nat.zero_add]; rfl
  | j + 1, k, q => by rw [Nat.add_right_comm]; exact z_it_add d j k (z_nx d q)
set_option maxRecDepth 100000 in
theorem z_it_lt {d q k : Nat} (hq : q ≤ 64) (h : z_it d k q < 64) : ∀ i, i ≤ k → z_it d i q < 64 := by
  intro i hi
  rcases Nat.lt_or_ge (z_it d i q) 64 with g | g
  · exact g
  · have e : z_it d i q = 64 := Nat.le_antisymm (z_it_le d q hq i) g
    have : z_it d k q = 64 := by
      rw [show k = i + (k - i) by omega, z_it_add, e, z_it_64]
    omega
set_option maxRecDepth 100000 in
theorem z_it_8 {d q : Nat} (hd : d < 8) (hq : q < 64) : z_it d 8 q = 64 :=
  (by decide +kernel : ∀ d, d < 8 → ∀ q, q < 64 → z_it d 8 q = 64) d hd q hq
set_option maxRecDepth 100000 in
theorem z_it_k_le {d q k : Nat} (hd : d < 8) (hq : q < 64) (h : z_it d k q < 64) : k ≤ 7 := by
  rcases Nat.lt_or_ge k 8 with g | g
  · omega
  · have := z_it_lt (Nat.le_of_lt hq) h 8 g
    rw [z_it_8 hd hq] at this; omega
set_option maxRecDepth 100000 in
theorem z_it_op {d : Nat} (hd : d < 8) : ∀ (k q : Nat), q < 64 → z_it d k q < 64 → ∀ i, i ≤ k → z_it (z_op d) i (z_it d k q) = z_it d (k - i) q := by
  intro k
  induction k with
  | zero => intro q _ _ i hi; rw [show i = 0 by omega]; rfl
  | succ k ih =>
    intro q hq h i hi
    have hk := z_it_lt (Nat.le_of_lt hq) h k (by omega)
    cases i with
    | zero => rfl
    | succ i =>
      rw [z_it_succ] at h
      rw [z_it_succ d k q, z_it, z_nx_op hd hk h, ih q hq hk i (by omega), Nat.succ_sub_succ]
def z_Sees (e : Nat → Bool) (d q s : Nat) : Prop := ∃ k, 1 ≤ k ∧ z_it d k q = s ∧ s < 64 ∧ ∀ i, 0 < i → i < k → e (z_it d i q) = true
set_option maxRecDepth 100000 in
theorem z_Sees.rev {e : Nat → Bool} {d q s : Nat} (hd : d < 8) (hq : q < 64) (h : z_Sees e d q s) : z_Sees e (z_op d) s q := by
  obtain ⟨k, h1, rfl, h3, h4⟩ := h
  refine ⟨k, h1, ?_, hq, ?_⟩
  · rw [z_it_op hd k q hq h3 k (Nat.le_refl _), Nat.sub_self]; rfl
  · intro i i1 i2
    rw [z_it_op hd k q hq h3 i (by omega)]
    exact h4 (k - i) (by omega) (by omega)
set_option maxRecDepth 100000 in
theorem z_Sees.comm {e : Nat → Bool} {d q s : Nat} (hd : d < 8) (hq : q < 64) (hs : s < 64) : z_Sees e d q s ↔ z_Sees e (z_op d) s q :=
  ⟨z_Sees.rev hd hq, fun h => by have := h.rev (z_op_lt hd) hs; rwa [z_op_op hd] at this⟩
def z_ray (e : Nat → Bool) (d : Nat) : Nat → Nat → Nat → Bool
  | 0, _, _ => false
  | n + 1, q, s => decide (z_nx d q < 64) && (decide (s = z_nx d q) || (e (z_nx d q) && z_ray e d n (z_nx d q) s))
set_option maxRecDepth 100000 in
theorem z_ray_iff (e : Nat → Bool) (d : Nat) : ∀ n q s, z_ray e d n q s = true ↔ ∃ k, 1 ≤ k ∧ k ≤ n ∧ z_it d k q = s ∧ s < 64 ∧ ∀ i, 0 < i → i < k → e (z_it d i q) = true := by
  intro n
  induction n with
  | zero => intro q s; simp [z_ray]; omega
  | succ n ih =>
    intro q s
    rw [z_ray, Bool.and_eq_true, Bool.or_eq_true, Bool.and_eq_true, decide_eq_true_eq, decide_eq_true_eq, ih]
    constructor
    · rintro ⟨h1, rfl | ⟨h2, k, k1, k2, k3, k4, k5⟩⟩
      · exact ⟨1, by omega, by omega, rfl, h1, fun i a b => by omega⟩
      · refine ⟨k + 1, by omega, by omega, k3, k4, ?_⟩
        intro i a b
        cases i with
        | zero => omega
        | succ i =>
          cases i with
          | zero => exact h2
          | succ i => exact k5 (i + 1) (by omega) (by omega)
    · rintro ⟨k, k1, k2, k3, k4, k5⟩
      cases k with
      | zero => omega
      | succ k =>
        have hb : z_nx d q < 64 := by
          have := z_it_lt (d := d) (k := k) (z_nx_le d q) (by rw [show z_it d k (z_nx d q) = s from k3]; exact k4) 0 (by omega)
          exact this
        refine ⟨hb, ?_⟩
        cases k with
        | zero => exact .inl k3.symm
        | succ k => exact .inr ⟨k5 1 (by omega) (by omega), k + 1, by omega, by omega, k3, k4, fun i a b => k5 (i + 1) (by omega) (by omega)⟩
set_option maxRecDepth 100000 in
theorem z_ray_sees {e : Nat → Bool} {d n q s : Nat} (hd : d < 8) (hq : q < 64) (hn : 7 ≤ n) : z_ray e d n q s = true ↔ z_Sees e d q s := by
  rw [z_ray_iff]
  constructor
  · rintro ⟨k, h1, -, h⟩; exact ⟨k, h1, h⟩
  · rintro ⟨k, h1, h2, h3, h4⟩
    refine ⟨k, h1, ?_, h2, h3, h4⟩
    have := z_it_k_le (k := k) hd hq (by omega)
    omega
def z_ry (e : Nat → Bool) (d q s : Nat) : Bool := z_ray e d 7 q s
set_option maxRecDepth 100000 in
theorem z_ry_iff {e : Nat → Bool} {d q s : Nat} (hd : d < 8) (hq : q < 64) : z_ry e d q s = true ↔ z_Sees e d q s := z_ray_sees hd hq (Nat.le_refl 7)
set_option maxRecDepth 100000 in
theorem z_ray_ry {e : Nat → Bool} {d n q s : Nat} (hd : d < 8) (hq : q < 64) (hn : 7 ≤ n) : z_ray e d n q s = z_ry e d q s :=
  Bool.eq_iff_iff.mpr ((z_ray_sees hd hq hn).trans (z_ry_iff hd hq).symm)
set_option maxRecDepth 100000 in
theorem z_ry_comm {e : Nat → Bool} {d q s : Nat} (hd : d < 8) (hq : q < 64) (hs : s < 64) : z_ry e d q s = z_ry e (z_op d) s q :=
  Bool.eq_iff_iff.mpr ((z_ry_iff hd hq).trans ((z_Sees.comm hd hq hs).trans (z_ry_iff (z_op_lt hd) hs).symm))
def z_bo (q : Nat) : Int64 := if q < 64 then z_bt q else 0
set_option maxRecDepth 100000 in
theorem z_tb_bo {q s : Nat} (hs : s < 64) : z_tb (z_bo q) s = (decide (q < 64) && decide (s = q)) := by
  unfold z_bo; split
  · rename_i h; rw [z_tb_bt h hs]; simp [h]
  · rename_i h; rw [z_tb_zero]; simp [h]
set_option maxRecDepth 100000 in
theorem z_bt_ne {q : Nat} (h : q < 64) : z_bt q ≠ 0 := fun e => by
  have := (z_eq0_iff _).mp e q h; rw [z_tb_bt h h] at this; simp at this
set_option maxRecDepth 100000 in
theorem z_bt_and {q : Nat} (h : q < 64) (e : Int64) : z_bt q &&& e = if z_tb e q then z_bt q else 0 := by
  apply z_tb_ext
  intro s hs
  rw [z_tb_and, z_tb_bt h hs]
  by_cases a : s = q
  · subst a; cases b : z_tb e s
    · simp [z_tb_zero]
    · simp [z_tb_bt hs hs]
  · cases b : z_tb e q
    · simp [z_tb_zero, a]
    · simp [z_tb_bt h hs, a]
set_option maxRecDepth 100000 in
theorem z_step_dn : ∀ d, d < 8 → ∀ q, q < 64 → tSHIFTS (nI d).toNatClampNeg ≤ 0 → ushr64 (z_bt q &&& tSTARTS (nI d).toNatClampNeg) (-(tSHIFTS (nI d).toNatClampNeg)) = z_bo (z_nx d q) := by decide +kernel
set_option maxRecDepth 100000 in
theorem z_step_up : ∀ d, d < 8 → ∀ q, q < 64 → ¬ tSHIFTS (nI d).toNatClampNeg ≤ 0 → shl64 (z_bt q &&& tSTARTS (nI d).toNatClampNeg) (tSHIFTS (nI d).toNatClampNeg) = z_bo (z_nx d q) := by decide +kernel
set_option maxRecDepth 100000 in
theorem z_nI_succ : ∀ k, k < 8 → nI (7 - k) + 1 = nI (8 - k) := by decide
set_option maxRecDepth 100000 in
theorem z_along_28 (d : Nat) (hd : d < 8) (fr e : Int64) : ∀ n, n ≤ 7 → ∀ (front acc : Int64) (q : Nat), (q ≤ 64) → front = z_bo q → ∀ s, s < 64 →
    z_tb (f_Ra_along_28 (nI d) fr e (n + 1) front acc (nI (7 - n))) s = (z_tb acc s || (decide (q < 64) && z_ray (z_tb e) d n q s)) := by
  intro n
  induction n with
  | zero =>
    intro hn front acc q hq hf s hs
    rw [f_Ra_along_28]; dsimp only
    rw [if_pos (by decide)]
    simp [z_ray]
  | succ n ih =>
    intro hn front acc q hq hf s hs
    rw [f_Ra_along_28]; dsimp only
    have h7 : ¬ (7 : Int32) ≤ nI (7 - (n + 1)) := (by decide : ∀ n, n ≤ 6 → ¬ (7 : Int32) ≤ nI (7 - (n + 1))) n (by omega)
    have hs1 : nI (7 - (n + 1)) + 1 = nI (7 - n) := (by decide : ∀ n, n ≤ 6 → nI (7 - (n + 1)) + 1 = nI (7 - n)) n (by omega)
    rw [if_neg h7]
    by_cases hq6 : q < 64
    · have hb : front = z_bt q := by rw [hf, z_bo, if_pos hq6]
      rw [if_neg (by rw [hb]; exact z_bt_ne hq6)]
      have key : ∀ y : Int64, y = z_bo (z_nx d q) → z_tb (f_Ra_along_28 (nI d) fr e (n + 1) (y &&& e) (acc ||| y) (nI (7 - (n + 1)) + 1)) s = (z_tb acc s || (decide (q < 64) && z_ray (z_tb e) d (n + 1) q s)) := by
        intro y hy
        rw [hs1]
        by_cases hx : z_nx d q < 64
        · have hy2 : y = z_bt (z_nx d q) := by rw [hy, z_bo, if_pos hx]
          rw [hy2, z_bt_and hx]
          cases he : z_tb e (z_nx d q)
          · rw [if_neg (by simp)]
            rw [ih (by omega) 0 _ 64 (Nat.le_refl _) (by decide) s hs, z_tb_or, z_tb_bt hx hs, z_ray]
            simp [hq6, hx, he]
          · rw [if_pos rfl]
            rw [ih (by omega) _ _ (z_nx d q) (z_nx_le _ _) (by rw [z_bo, if_pos hx]) s hs, z_tb_or, z_tb_bt hx hs, z_ray]
            simp [hq6, hx, he, Bool.or_assoc]
        · have hy2 : y = 0 := by rw [hy, z_bo, if_neg hx]
          rw [hy2, show (0 : Int64) &&& e = 0 from z_tb_ext (fun q _ => by rw [z_tb_and, z_tb_zero]; rfl)]
          rw [ih (by omega) 0 _ 64 (Nat.le_refl _) (by decide) s hs, z_tb_or, z_tb_zero, z_ray]
          simp [hx]
      by_cases hsh : tSHIFTS (nI d).toNatClampNeg ≤ 0
      · rw [if_pos hsh]
        exact key _ (by rw [hb]; exact z_step_dn d hd q hq6 hsh)
      · rw [if_neg hsh]
        exact key _ (by rw [hb]; exact z_step_up d hd q hq6 hsh)
    · have hb : front = 0 := by rw [hf, z_bo, if_neg hq6]
      rw [if_pos hb]; simp [hq6]
set_option maxRecDepth 100000 in
theorem z_along_bo {d : Nat} (hd : d < 8) (q : Nat) (hq : q ≤ 64) (e : Int64) {s : Nat} (hs : s < 64) :
    z_tb (f_Ra_along (nI d) (z_bo q) e) s = (decide (q < 64) && z_ry (z_tb e) d q s) := by
  have h1 : ¬ nI d < 0 := (by decide : ∀ d, d < 8 → ¬ nI d < 0) d hd
  have h2 : nI d < 8 := (by decide : ∀ d, d < 8 → nI d < 8) d hd
  rw [f_Ra_along, if_neg h1, if_pos h2]
  have := z_along_28 d hd (z_bo q) e 7 (Nat.le_refl _) (z_bo q) 0 q hq rfl s hs
  rw [z_tb_zero, Bool.false_or] at this
  exact this
set_option maxRecDepth 100000 in
theorem z_along_bt {d : Nat} (hd : d < 8) {q : Nat} (hq : q < 64) (e : Int64) {s : Nat} (hs : s < 64) :
    z_tb (f_Ra_along (nI d) (z_bt q) e) s = z_ry (z_tb e) d q s := by
  have := z_along_bo hd q (Nat.le_of_lt hq) e hs
  rw [z_bo, if_pos hq] at this
  rw [this]; simp [hq]
set_option maxRecDepth 100000 in
theorem z_along_0 {d : Nat} (hd : d < 8) (e : Int64) : f_Ra_along (nI d) 0 e = 0 := by
  apply z_tb_ext
  intro s hs
  have := z_along_bo hd 64 (Nat.le_refl _) e hs
  rw [show z_bo 64 = 0 from rfl] at this
  rw [this, z_tb_zero]; rfl
set_option maxRecDepth 100000 in
theorem z_step_eq : ∀ d, d < 8 → ∀ q, q < 64 → f_Mo_step (nI q) (z_dF d) (z_dR d) = if z_nx d q < 64 then nI (z_nx d q) else -1 := by decide +kernel
set_option maxRecDepth 100000 in
theorem z_nI_nat : ∀ q, q < 64 → (nI q).toNatClampNeg = q := by decide
set_option maxRecDepth 100000 in
theorem z_nI_ge : ∀ q, q < 64 → ¬ nI q < 0 := by decide
set_option maxRecDepth 100000 in
theorem z_nI_ge' : ∀ q, q < 64 → 0 ≤ nI q := by decide
set_option maxRecDepth 100000 in
theorem z_bit_eq {q : Nat} (h : q < 64) : f_Mo_bit (nI q) = z_bt q := by rw [f_Mo_bit, if_pos (z_nI_ge' q h)]; rfl
set_option maxRecDepth 100000 in
theorem z_bit_neg : f_Mo_bit (-1) = 0 := by decide
set_option maxRecDepth 100000 in
theorem z_walk_11 (men : Nat → Int32) (sq0 : Int32) {d : Nat} (hd : d < 8) : ∀ n, ∀ (acc : Int64) (q : Nat), q < 64 → ∀ s, s < 64 → z_it d n q = 64 →
    z_tb (f_Mo_walk_11 men sq0 (z_dF d) (z_dR d) (n + 1) acc (if z_nx d q < 64 then nI (z_nx d q) else -1)) s = (z_tb acc s || z_ray (fun t => decide (men t = 0)) d n q s) := by
  intro n
  induction n with
  | zero =>
    intro acc q hq s hs h
    rw [z_it] at h; omega
  | succ n ih =>
    intro acc q hq s hs h
    rw [f_Mo_walk_11, z_ray]; dsimp only
    by_cases hx : z_nx d q < 64
    · rw [if_pos hx, if_neg (z_nI_ge _ hx), z_nI_nat _ hx, z_bit_eq hx]
      by_cases hm : men (z_nx d q) = 0
      · rw [if_pos hm, z_step_eq d hd _ hx, ih _ _ hx s hs h, z_tb_or, z_tb_bt hx hs]
        simp [hx, hm, Bool.or_assoc]
      · rw [if_neg hm]
        cases n with
        | zero =>
          rw [z_it, z_it] at h; omega
        | succ n =>
          rw [f_Mo_walk_11]; dsimp only
          rw [if_pos (by decide), z_tb_or, z_tb_bt hx hs]
          simp [hx, hm]
    · rw [if_neg hx, if_pos (by decide)]
      simp [hx]
set_option maxRecDepth 100000 in
theorem z_walk_eq (men : Nat → Int32) {d q : Nat} (hd : d < 8) (hq : q < 64) {s : Nat} (hs : s < 64) :
    z_tb (f_Mo_walk men (nI q) (z_dF d) (z_dR d)) s = z_ry (fun t => decide (men t = 0)) d q s := by
  rw [f_Mo_walk, z_step_eq d hd q hq, z_walk_11 men _ hd 8 0 q hq s hs (z_it_8 hd hq), z_tb_zero, Bool.false_or]
  exact z_ray_ry hd hq (by decide)

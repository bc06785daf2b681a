/-! BITS COUNTED -/
theorem mask8 {b M m0 m s : Nat} (hb : b < 256) (hs : s ≤ 8) (hm : m0 < 2 ^ (8 - s)) : (256 * M + b) / 2 ^ s &&& (256 * m + m0) = 256 * (M / 2 ^ s &&& m) + (b / 2 ^ s &&& m0) := by
  have hm8 : m0 < 2 ^ 8 := Nat.lt_of_lt_of_le hm (Nat.pow_le_pow_right (by omega) (by omega))
  have hr : (b / 2 ^ s &&& m0) < 2 ^ 8 := Nat.lt_of_le_of_lt Nat.and_le_right hm8
  apply Nat.eq_of_testBit_eq
  intro j
  rw [Nat.testBit_and, Nat.testBit_div_two_pow, show 256 = 2 ^ 8 from rfl, Nat.testBit_two_pow_mul_add M (show b < 2 ^ 8 from hb), Nat.testBit_two_pow_mul_add m hm8, Nat.testBit_two_pow_mul_add _ hr]
  by_cases hj : j < 8
  · rw [if_pos hj, if_pos hj, Nat.testBit_and, Nat.testBit_div_two_pow]
    by_cases hjs : j + s < 8
    · rw [if_pos hjs]
    · have : m0.testBit j = false := Nat.testBit_lt_two_pow (Nat.lt_of_lt_of_le hm (Nat.pow_le_pow_right (by omega) (by omega)))
      rw [this, Bool.and_false, Bool.and_false]
  · rw [if_neg hj, if_neg hj, if_neg (by omega), Nat.testBit_and, Nat.testBit_div_two_pow, show j + s - 8 = j - 8 + s by omega]
/-- eight bytes -/
def by8 (b0 b1 b2 b3 b4 b5 b6 b7 : Nat) : Nat := 256 * (256 * (256 * (256 * (256 * (256 * (256 * b7 + b6) + b5) + b4) + b3) + b2) + b1) + b0
theorem mask64 {b0 b1 b2 b3 b4 b5 b6 b7 m s : Nat} (h0 : b0 < 256) (h1 : b1 < 256) (h2 : b2 < 256) (h3 : b3 < 256) (h4 : b4 < 256) (h5 : b5 < 256) (h6 : b6 < 256) (hs : s ≤ 8) (hm : m < 2 ^ (8 - s)) :
    by8 b0 b1 b2 b3 b4 b5 b6 b7 / 2 ^ s &&& by8 m m m m m m m m = by8 (b0 / 2 ^ s &&& m) (b1 / 2 ^ s &&& m) (b2 / 2 ^ s &&& m) (b3 / 2 ^ s &&& m) (b4 / 2 ^ s &&& m) (b5 / 2 ^ s &&& m) (b6 / 2 ^ s &&& m) (b7 / 2 ^ s &&& m) := by
  unfold by8
  rw [mask8 h0 hs hm, mask8 h1 hs hm, mask8 h2 hs hm, mask8 h3 hs hm, mask8 h4 hs hm, mask8 h5 hs hm, mask8 h6 hs hm]
def s1 (b : Nat) : Nat := b - (b / 2 ^ 1 &&& 0x55)
def s2 (b : Nat) : Nat := (b / 2 ^ 0 &&& 0x33) + (b / 2 ^ 2 &&& 0x33)
def s3 (b : Nat) : Nat := (b + b / 2 ^ 4) % 16
def pop8 (b : Nat) : Nat := cnt (fun j => b.testBit j) 8
theorem pop8_ok : ∀ b : Fin 256, s3 (s2 (s1 b.1)) = pop8 b.1 ∧ s1 b.1 < 256 ∧ (b.1 / 2 ^ 1 &&& 0x55) ≤ b.1 ∧ (s2 (s1 b.1) ≤ 0x44 ∧ s2 (s1 b.1) % 16 ≤ 4) ∧ pop8 b.1 ≤ 8 := by decide +kernel
def Pc1 (v : Int64) : Int64 := v - (((v.toUInt64 >>> ((1 : Int32).toInt64.toUInt64 &&& Int64.toUInt64 63)).toInt64) &&& (6148914691236517205 : Int64))
def Pc2 (v : Int64) : Int64 := (v &&& (3689348814741910323 : Int64)) + (((v.toUInt64 >>> ((2 : Int32).toInt64.toUInt64 &&& Int64.toUInt64 63)).toInt64) &&& (3689348814741910323 : Int64))
def Pc3 (v : Int64) : Int64 := (v + ((v.toUInt64 >>> ((4 : Int32).toInt64.toUInt64 &&& Int64.toUInt64 63)).toInt64)) &&& (1085102592571150095 : Int64)
def Pc4 (v : Int64) : Int64 := v + ((v.toUInt64 >>> ((8 : Int32).toInt64.toUInt64 &&& Int64.toUInt64 63)).toInt64)
def Pc5 (v : Int64) : Int64 := v + ((v.toUInt64 >>> ((16 : Int32).toInt64.toUInt64 &&& Int64.toUInt64 63)).toInt64)
def Pc6 (v : Int64) : Int64 := v + ((v.toUInt64 >>> ((32 : Int32).toInt64.toUInt64 &&& Int64.toUInt64 63)).toInt64)
theorem bc_eq (v : Int64) : fJ13_bitCount_95d88 v = (Pc6 (Pc5 (Pc4 (Pc3 (Pc2 (Pc1 v)))))).toInt32 &&& 127 := rfl
/-- a long by its number -/
abbrev nv (v : Int64) : Nat := v.toBitVec.toNat
theorem nv_shr {s : Nat} {w : UInt64} (v : Int64) (h : w.toBitVec % (64 : BitVec 64) = BitVec.ofNat 64 s) (hs : s < 64) : nv ((v.toUInt64 >>> w).toInt64) = nv v / 2 ^ s := by
  show (v.toUInt64 >>> w).toBitVec.toNat = _
  rw [UInt64.toBitVec_shiftRight, h, BitVec.ushiftRight_eq', BitVec.toNat_ushiftRight, BitVec.toNat_ofNat, Nat.mod_eq_of_lt (by omega), Nat.shiftRight_eq_div_pow]
  rfl
theorem nv_and (a b : Int64) : nv (a &&& b) = nv a &&& nv b := BitVec.toNat_and _ _
theorem nv_add {a b : Int64} (h : nv a + nv b < 2 ^ 64) : nv (a + b) = nv a + nv b := by
  show (a + b).toBitVec.toNat = _
  rw [Int64.toBitVec_add, BitVec.toNat_add, Nat.mod_eq_of_lt h]
theorem nv_sub {a b : Int64} (h : nv b ≤ nv a) : nv (a - b) = nv a - nv b := by
  show (a - b).toBitVec.toNat = _
  rw [Int64.toBitVec_sub, BitVec.toNat_sub_of_le (BitVec.le_def.mpr h)]
theorem by8_of (n : Nat) (h : n < 2 ^ 64) : ∃ b0 b1 b2 b3 b4 b5 b6 b7, b0 < 256 ∧ b1 < 256 ∧ b2 < 256 ∧ b3 < 256 ∧ b4 < 256 ∧ b5 < 256 ∧ b6 < 256 ∧ b7 < 256 ∧ n = by8 b0 b1 b2 b3 b4 b5 b6 b7 := by
  have m : ∀ x : Nat, x % 256 < 256 := fun x => Nat.mod_lt x (by decide)
  have d : ∀ x k : Nat, x < 256 * k → x / 256 < k := fun x k hx => by omega
  refine ⟨n % 256, n / 256 % 256, n / 256 / 256 % 256, n / 256 / 256 / 256 % 256, n / 256 / 256 / 256 / 256 % 256, n / 256 / 256 / 256 / 256 / 256 % 256, n / 256 / 256 / 256 / 256 / 256 / 256 % 256, n / 256 / 256 / 256 / 256 / 256 / 256 / 256, m _, m _, m _, m _, m _, m _, m _, ?_, ?_⟩
  · exact d _ _ (d _ _ (d _ _ (d _ _ (d _ _ (d _ _ (d _ _ h))))))
  · unfold by8
    rw [Nat.div_add_mod, Nat.div_add_mod, Nat.div_add_mod, Nat.div_add_mod, Nat.div_add_mod, Nat.div_add_mod, Nat.div_add_mod]
theorem by8_add (a0 a1 a2 a3 a4 a5 a6 a7 b0 b1 b2 b3 b4 b5 b6 b7 : Nat) : by8 a0 a1 a2 a3 a4 a5 a6 a7 + by8 b0 b1 b2 b3 b4 b5 b6 b7 = by8 (a0 + b0) (a1 + b1) (a2 + b2) (a3 + b3) (a4 + b4) (a5 + b5) (a6 + b6) (a7 + b7) := by
  unfold by8
  omega
theorem by8_sh {b0 : Nat} (h : b0 < 256) (b1 b2 b3 b4 b5 b6 b7 : Nat) : by8 b0 b1 b2 b3 b4 b5 b6 b7 / 256 = by8 b1 b2 b3 b4 b5 b6 b7 0 := by
  have : ∀ M : Nat, (256 * M + b0) / 256 = M := fun M => by omega
  unfold by8
  rw [this]
  simp only [Nat.mul_zero, Nat.zero_add]
theorem by8_lt {b0 b1 b2 b3 b4 b5 b6 b7 : Nat} (h0 : b0 < 256) (h1 : b1 < 256) (h2 : b2 < 256) (h3 : b3 < 256) (h4 : b4 < 256) (h5 : b5 < 256) (h6 : b6 < 256) (h7 : b7 < 256) : by8 b0 b1 b2 b3 b4 b5 b6 b7 < 2 ^ 64 := by
  have d : ∀ x b k : Nat, x < k → b < 256 → 256 * x + b < 256 * k := fun x b k hx hb => by omega
  exact d _ _ _ (d _ _ _ (d _ _ _ (d _ _ _ (d _ _ _ (d _ _ _ (d _ _ _ h7 h6) h5) h4) h3) h2) h1) h0
theorem by8_d4 {b0 b1 b2 b3 b4 b5 b6 : Nat} (h0 : b0 < 256) (h1 : b1 < 256) (h2 : b2 < 256) (h3 : b3 < 256) (h4 : b4 < 256) (h5 : b5 < 256) (h6 : b6 < 256) (b7 : Nat) : by8 b0 b1 b2 b3 b4 b5 b6 b7 / 16 = by8 (b0 / 16 + 16 * (b1 % 16)) (b1 / 16 + 16 * (b2 % 16)) (b2 / 16 + 16 * (b3 % 16)) (b3 / 16 + 16 * (b4 % 16)) (b4 / 16 + 16 * (b5 % 16)) (b5 / 16 + 16 * (b6 % 16)) (b6 / 16 + 16 * (b7 % 16)) (b7 / 16) := by
  have d : ∀ b M : Nat, b < 256 → (256 * M + b) / 16 = 256 * (M / 16) + (b / 16 + 16 * (M % 16)) := fun b M hb => by omega
  have e : ∀ b M : Nat, (256 * M + b) % 16 = b % 16 := fun b M => by omega
  unfold by8
  rw [d _ _ h0, d _ _ h1, d _ _ h2, d _ _ h3, d _ _ h4, d _ _ h5, d _ _ h6]
  simp only [e]
theorem cnt_add (p : Nat → Bool) (a b : Nat) : cnt p (a + b) = cnt p a + cnt (fun j => p (a + j)) b := by
  induction b with
  | zero => rfl
  | succ b ih =>
    rw [← Nat.add_assoc]
    show cnt p (a + b) + _ = cnt p a + (cnt _ b + _)
    rw [ih, Nat.add_assoc]
theorem cnt_by {b M : Nat} (hb : b < 256) (n : Nat) : cnt (fun j => (256 * M + b).testBit j) (8 + n) = pop8 b + cnt (fun j => M.testBit j) n := by
  rw [cnt_add]
  unfold pop8
  congr 1
  · apply cnt_congr
    intro j hj
    rw [show 256 = 2 ^ 8 from rfl, Nat.testBit_two_pow_mul_add M (show b < 2 ^ 8 from hb), if_pos hj]
  · apply cnt_congr
    intro j hj
    rw [show 256 = 2 ^ 8 from rfl, Nat.testBit_two_pow_mul_add M (show b < 2 ^ 8 from hb), if_neg (by omega), show 8 + j - 8 = j by omega]
theorem cnt_by8 {b0 b1 b2 b3 b4 b5 b6 b7 : Nat} (h0 : b0 < 256) (h1 : b1 < 256) (h2 : b2 < 256) (h3 : b3 < 256) (h4 : b4 < 256) (h5 : b5 < 256) (h6 : b6 < 256) : cnt (fun j => (by8 b0 b1 b2 b3 b4 b5 b6 b7).testBit j) 64 = pop8 b0 + (pop8 b1 + (pop8 b2 + (pop8 b3 + (pop8 b4 + (pop8 b5 + (pop8 b6 + pop8 b7)))))) := by
  unfold by8
  rw [show 64 = 8 + (8 + (8 + (8 + (8 + (8 + (8 + 8)))))) from rfl, cnt_by h0, cnt_by h1, cnt_by h2, cnt_by h3, cnt_by h4, cnt_by h5, cnt_by h6]
  rfl
theorem mod16 (x : Nat) : x % 16 = x &&& 15 := (Nat.and_two_pow_sub_one_eq_mod x 4).symm
theorem bitCount_ok (v : Int64) : fJ13_bitCount_95d88 v = I (cnt (mb v) 64) := by
  rw [bc_eq]
  obtain ⟨b0, b1, b2, b3, b4, b5, b6, b7, h0, h1, h2, h3, h4, h5, h6, h7, hn⟩ := by8_of (nv v) v.toBitVec.isLt
  have hc : cnt (mb v) 64 = pop8 b0 + (pop8 b1 + (pop8 b2 + (pop8 b3 + (pop8 b4 + (pop8 b5 + (pop8 b6 + pop8 b7)))))) := by
    rw [← cnt_by8 (b7 := b7) h0 h1 h2 h3 h4 h5 h6, ← hn]
    apply cnt_congr
    intro j _
    rfl
  obtain ⟨p0, q0, r0, u0, w0⟩ := pop8_ok ⟨b0, h0⟩
  obtain ⟨p1, q1, r1, u1, w1⟩ := pop8_ok ⟨b1, h1⟩
  obtain ⟨p2, q2, r2, u2, w2⟩ := pop8_ok ⟨b2, h2⟩
  obtain ⟨p3, q3, r3, u3, w3⟩ := pop8_ok ⟨b3, h3⟩
  obtain ⟨p4, q4, r4, u4, w4⟩ := pop8_ok ⟨b4, h4⟩
  obtain ⟨p5, q5, r5, u5, w5⟩ := pop8_ok ⟨b5, h5⟩
  obtain ⟨p6, q6, r6, u6, w6⟩ := pop8_ok ⟨b6, h6⟩
  obtain ⟨p7, q7, r7, u7, w7⟩ := pop8_ok ⟨b7, h7⟩
  simp only at p0 q0 r0 u0 w0 p1 q1 r1 u1 w1 p2 q2 r2 u2 w2 p3 q3 r3 u3 w3 p4 q4 r4 u4 w4 p5 q5 r5 u5 w5 p6 q6 r6 u6 w6 p7 q7 r7 u7 w7
  have e1 : nv (Pc1 v) = by8 (s1 b0) (s1 b1) (s1 b2) (s1 b3) (s1 b4) (s1 b5) (s1 b6) (s1 b7) := by
    have hm : nv (((v.toUInt64 >>> ((1 : Int32).toInt64.toUInt64 &&& Int64.toUInt64 63)).toInt64) &&& (6148914691236517205 : Int64)) = by8 (b0 / 2 ^ 1 &&& 0x55) (b1 / 2 ^ 1 &&& 0x55) (b2 / 2 ^ 1 &&& 0x55) (b3 / 2 ^ 1 &&& 0x55) (b4 / 2 ^ 1 &&& 0x55) (b5 / 2 ^ 1 &&& 0x55) (b6 / 2 ^ 1 &&& 0x55) (b7 / 2 ^ 1 &&& 0x55) := by
      rw [nv_and, nv_shr (s := 1) v (by decide +kernel) (by omega), hn, show nv (6148914691236517205 : Int64) = by8 0x55 0x55 0x55 0x55 0x55 0x55 0x55 0x55 by decide +kernel, mask64 h0 h1 h2 h3 h4 h5 h6 (by omega) (by decide)]
    have hadd : by8 (s1 b0) (s1 b1) (s1 b2) (s1 b3) (s1 b4) (s1 b5) (s1 b6) (s1 b7) + by8 (b0 / 2 ^ 1 &&& 0x55) (b1 / 2 ^ 1 &&& 0x55) (b2 / 2 ^ 1 &&& 0x55) (b3 / 2 ^ 1 &&& 0x55) (b4 / 2 ^ 1 &&& 0x55) (b5 / 2 ^ 1 &&& 0x55) (b6 / 2 ^ 1 &&& 0x55) (b7 / 2 ^ 1 &&& 0x55) = by8 b0 b1 b2 b3 b4 b5 b6 b7 := by
      rw [by8_add]
      unfold s1
      rw [Nat.sub_add_cancel r0, Nat.sub_add_cancel r1, Nat.sub_add_cancel r2, Nat.sub_add_cancel r3, Nat.sub_add_cancel r4, Nat.sub_add_cancel r5, Nat.sub_add_cancel r6, Nat.sub_add_cancel r7]
    unfold Pc1
    rw [nv_sub, hm, hn, ← hadd, Nat.add_sub_cancel]
    rw [hm, hn, ← hadd]
    exact Nat.le_add_left _ _
  have e2 : nv (Pc2 (Pc1 v)) = by8 (s2 (s1 b0)) (s2 (s1 b1)) (s2 (s1 b2)) (s2 (s1 b3)) (s2 (s1 b4)) (s2 (s1 b5)) (s2 (s1 b6)) (s2 (s1 b7)) := by
    have ha : nv (Pc1 v &&& (3689348814741910323 : Int64)) = by8 (s1 b0 / 2 ^ 0 &&& 0x33) (s1 b1 / 2 ^ 0 &&& 0x33) (s1 b2 / 2 ^ 0 &&& 0x33) (s1 b3 / 2 ^ 0 &&& 0x33) (s1 b4 / 2 ^ 0 &&& 0x33) (s1 b5 / 2 ^ 0 &&& 0x33) (s1 b6 / 2 ^ 0 &&& 0x33) (s1 b7 / 2 ^ 0 &&& 0x33) := by
      rw [nv_and, e1, show nv (3689348814741910323 : Int64) = by8 0x33 0x33 0x33 0x33 0x33 0x33 0x33 0x33 by decide +kernel, ← mask64 q0 q1 q2 q3 q4 q5 q6 (by omega) (by decide), Nat.pow_zero, Nat.div_one]
    have hb : nv ((((Pc1 v).toUInt64 >>> ((2 : Int32).toInt64.toUInt64 &&& Int64.toUInt64 63)).toInt64) &&& (3689348814741910323 : Int64)) = by8 (s1 b0 / 2 ^ 2 &&& 0x33) (s1 b1 / 2 ^ 2 &&& 0x33) (s1 b2 / 2 ^ 2 &&& 0x33) (s1 b3 / 2 ^ 2 &&& 0x33) (s1 b4 / 2 ^ 2 &&& 0x33) (s1 b5 / 2 ^ 2 &&& 0x33) (s1 b6 / 2 ^ 2 &&& 0x33) (s1 b7 / 2 ^ 2 &&& 0x33) := by
      rw [nv_and, nv_shr (s := 2) _ (by decide +kernel) (by omega), e1, show nv (3689348814741910323 : Int64) = by8 0x33 0x33 0x33 0x33 0x33 0x33 0x33 0x33 by decide +kernel, mask64 q0 q1 q2 q3 q4 q5 q6 (by omega) (by decide)]
    have hsum : nv (Pc1 v &&& (3689348814741910323 : Int64)) + nv ((((Pc1 v).toUInt64 >>> ((2 : Int32).toInt64.toUInt64 &&& Int64.toUInt64 63)).toInt64) &&& (3689348814741910323 : Int64)) = by8 (s2 (s1 b0)) (s2 (s1 b1)) (s2 (s1 b2)) (s2 (s1 b3)) (s2 (s1 b4)) (s2 (s1 b5)) (s2 (s1 b6)) (s2 (s1 b7)) := by
      rw [ha, hb, by8_add]
      rfl
    unfold Pc2
    rw [nv_add, hsum]
    rw [hsum]
    exact by8_lt (by omega) (by omega) (by omega) (by omega) (by omega) (by omega) (by omega) (by omega)
  have e3 : nv (Pc3 (Pc2 (Pc1 v))) = by8 (pop8 b0) (pop8 b1) (pop8 b2) (pop8 b3) (pop8 b4) (pop8 b5) (pop8 b6) (pop8 b7) := by
    have hs : nv ((((Pc2 (Pc1 v)).toUInt64 >>> ((4 : Int32).toInt64.toUInt64 &&& Int64.toUInt64 63)).toInt64)) = nv (Pc2 (Pc1 v)) / 2 ^ 4 := nv_shr (s := 4) _ (by decide +kernel) (by omega)
    generalize hx0 : s2 (s1 b0) = x0 at *
    generalize hx1 : s2 (s1 b1) = x1 at *
    generalize hx2 : s2 (s1 b2) = x2 at *
    generalize hx3 : s2 (s1 b3) = x3 at *
    generalize hx4 : s2 (s1 b4) = x4 at *
    generalize hx5 : s2 (s1 b5) = x5 at *
    generalize hx6 : s2 (s1 b6) = x6 at *
    generalize hx7 : s2 (s1 b7) = x7 at *
    have hsum : nv (Pc2 (Pc1 v)) + nv ((((Pc2 (Pc1 v)).toUInt64 >>> ((4 : Int32).toInt64.toUInt64 &&& Int64.toUInt64 63)).toInt64)) = by8 (x0 + (x0 / 16 + 16 * (x1 % 16))) (x1 + (x1 / 16 + 16 * (x2 % 16))) (x2 + (x2 / 16 + 16 * (x3 % 16))) (x3 + (x3 / 16 + 16 * (x4 % 16))) (x4 + (x4 / 16 + 16 * (x5 % 16))) (x5 + (x5 / 16 + 16 * (x6 % 16))) (x6 + (x6 / 16 + 16 * (x7 % 16))) (x7 + x7 / 16) := by
      rw [hs, e2, show (2 : Nat) ^ 4 = 16 from rfl, by8_d4 (by omega) (by omega) (by omega) (by omega) (by omega) (by omega) (by omega), by8_add]
    have k : ∀ x y : Nat, x ≤ 0x44 → y % 16 ≤ 4 → x + (x / 16 + 16 * (y % 16)) < 256 ∧ (x + (x / 16 + 16 * (y % 16))) % 16 = (x + x / 2 ^ 4) % 16 := fun x y hx hy => by
      constructor <;> omega
    unfold Pc3
    rw [nv_and, nv_add, hsum, show nv (1085102592571150095 : Int64) = by8 15 15 15 15 15 15 15 15 by decide +kernel]
    · have := mask64 (b7 := x7 + x7 / 16) (m := 15) (s := 0) (k x0 x1 u0.1 u1.2).1 (k x1 x2 u1.1 u2.2).1 (k x2 x3 u2.1 u3.2).1 (k x3 x4 u3.1 u4.2).1 (k x4 x5 u4.1 u5.2).1 (k x5 x6 u5.1 u6.2).1 (k x6 x7 u6.1 u7.2).1 (by omega) (by decide)
      rw [Nat.pow_zero, Nat.div_one] at this
      rw [this]
      simp only [Nat.div_one, ← mod16]
      rw [(k x0 x1 u0.1 u1.2).2, (k x1 x2 u1.1 u2.2).2, (k x2 x3 u2.1 u3.2).2, (k x3 x4 u3.1 u4.2).2, (k x4 x5 u4.1 u5.2).2, (k x5 x6 u5.1 u6.2).2, (k x6 x7 u6.1 u7.2).2]
      unfold s3 at p0 p1 p2 p3 p4 p5 p6 p7
      rw [← p0, ← p1, ← p2, ← p3, ← p4, ← p5, ← p6, ← p7]
    · rw [hsum]
      exact by8_lt (k x0 x1 u0.1 u1.2).1 (k x1 x2 u1.1 u2.2).1 (k x2 x3 u2.1 u3.2).1 (k x3 x4 u3.1 u4.2).1 (k x4 x5 u4.1 u5.2).1 (k x5 x6 u5.1 u6.2).1 (k x6 x7 u6.1 u7.2).1 (by omega)
  rw [hc]
  generalize pop8 b0 = x0 at *
  generalize pop8 b1 = x1 at *
  generalize pop8 b2 = x2 at *
  generalize pop8 b3 = x3 at *
  generalize pop8 b4 = x4 at *
  generalize pop8 b5 = x5 at *
  generalize pop8 b6 = x6 at *
  generalize pop8 b7 = x7 at *
  generalize hV : Pc3 (Pc2 (Pc1 v)) = V at *
  have g4 : nv (Pc4 V) = by8 (x0 + x1) (x1 + x2) (x2 + x3) (x3 + x4) (x4 + x5) (x5 + x6) (x6 + x7) (x7 + 0) := by
    have hs : nv (((V.toUInt64 >>> ((8 : Int32).toInt64.toUInt64 &&& Int64.toUInt64 63)).toInt64)) = nv V / 2 ^ 8 := nv_shr (s := 8) _ (by decide +kernel) (by omega)
    have hsum : nv V + nv (((V.toUInt64 >>> ((8 : Int32).toInt64.toUInt64 &&& Int64.toUInt64 63)).toInt64)) = by8 (x0 + x1) (x1 + x2) (x2 + x3) (x3 + x4) (x4 + x5) (x5 + x6) (x6 + x7) (x7 + 0) := by
      rw [hs, e3, show (2 : Nat) ^ 8 = 256 from rfl, by8_sh (by omega), by8_add]
    unfold Pc4
    rw [nv_add, hsum]
    rw [hsum]
    exact by8_lt (by omega) (by omega) (by omega) (by omega) (by omega) (by omega) (by omega) (by omega)
  have g5 : nv (Pc5 (Pc4 V)) = by8 (x0 + x1 + (x2 + x3)) (x1 + x2 + (x3 + x4)) (x2 + x3 + (x4 + x5)) (x3 + x4 + (x5 + x6)) (x4 + x5 + (x6 + x7)) (x5 + x6 + (x7 + 0)) (x6 + x7 + 0) (x7 + 0 + 0) := by
    have hs : nv ((((Pc4 V).toUInt64 >>> ((16 : Int32).toInt64.toUInt64 &&& Int64.toUInt64 63)).toInt64)) = nv (Pc4 V) / 2 ^ 16 := nv_shr (s := 16) _ (by decide +kernel) (by omega)
    have hsum : nv (Pc4 V) + nv ((((Pc4 V).toUInt64 >>> ((16 : Int32).toInt64.toUInt64 &&& Int64.toUInt64 63)).toInt64)) = by8 (x0 + x1 + (x2 + x3)) (x1 + x2 + (x3 + x4)) (x2 + x3 + (x4 + x5)) (x3 + x4 + (x5 + x6)) (x4 + x5 + (x6 + x7)) (x5 + x6 + (x7 + 0)) (x6 + x7 + 0) (x7 + 0 + 0) := by
      rw [hs, g4, show (2 : Nat) ^ 16 = 256 * 256 from rfl, ← Nat.div_div_eq_div_mul, by8_sh (by omega), by8_sh (by omega), by8_add]
    unfold Pc5
    rw [nv_add, hsum]
    rw [hsum]
    exact by8_lt (by omega) (by omega) (by omega) (by omega) (by omega) (by omega) (by omega) (by omega)
  have g6 : ∃ y1 y2 y3 y4 y5 y6 y7, nv (Pc6 (Pc5 (Pc4 V))) = by8 (x0 + x1 + (x2 + x3) + (x4 + x5 + (x6 + x7))) y1 y2 y3 y4 y5 y6 y7 := by
    have hs : nv ((((Pc5 (Pc4 V)).toUInt64 >>> ((32 : Int32).toInt64.toUInt64 &&& Int64.toUInt64 63)).toInt64)) = nv (Pc5 (Pc4 V)) / 2 ^ 32 := nv_shr (s := 32) _ (by decide +kernel) (by omega)
    have hsum : nv (Pc5 (Pc4 V)) + nv ((((Pc5 (Pc4 V)).toUInt64 >>> ((32 : Int32).toInt64.toUInt64 &&& Int64.toUInt64 63)).toInt64)) = by8 (x0 + x1 + (x2 + x3) + (x4 + x5 + (x6 + x7))) (x1 + x2 + (x3 + x4) + (x5 + x6 + (x7 + 0))) (x2 + x3 + (x4 + x5) + (x6 + x7 + 0)) (x3 + x4 + (x5 + x6) + (x7 + 0 + 0)) (x4 + x5 + (x6 + x7) + 0) (x5 + x6 + (x7 + 0) + 0) (x6 + x7 + 0 + 0) (x7 + 0 + 0 + 0) := by
      rw [hs, g5, show (2 : Nat) ^ 32 = 256 * 256 * 256 * 256 from rfl, ← Nat.div_div_eq_div_mul, ← Nat.div_div_eq_div_mul, ← Nat.div_div_eq_div_mul, by8_sh (by omega), by8_sh (by omega), by8_sh (by omega), by8_sh (by omega), by8_add]
    refine ⟨x1 + x2 + (x3 + x4) + (x5 + x6 + (x7 + 0)), x2 + x3 + (x4 + x5) + (x6 + x7 + 0), x3 + x4 + (x5 + x6) + (x7 + 0 + 0), x4 + x5 + (x6 + x7) + 0, x5 + x6 + (x7 + 0) + 0, x6 + x7 + 0 + 0, x7 + 0 + 0 + 0, ?_⟩
    unfold Pc6
    rw [nv_add, hsum]
    rw [hsum]
    exact by8_lt (by omega) (by omega) (by omega) (by omega) (by omega) (by omega) (by omega) (by omega)
  have hmod : nv (Pc6 (Pc5 (Pc4 V))) % 128 = x0 + (x1 + (x2 + (x3 + (x4 + (x5 + (x6 + x7)))))) := by
    obtain ⟨y1, y2, y3, y4, y5, y6, y7, e⟩ := g6
    rw [e]
    unfold by8
    have k : ∀ M b : Nat, b ≤ 64 → (256 * M + b) % 128 = b := fun M b hb => by omega
    rw [k _ _ (by omega)]
    omega
  apply Int32.toBitVec_inj.mp
  apply BitVec.eq_of_toNat_eq
  show ((Pc6 (Pc5 (Pc4 V))).toInt32.toBitVec &&& (127 : Int32).toBitVec).toNat = _
  rw [BitVec.toNat_and, show (127 : Int32).toBitVec.toNat = 2 ^ 7 - 1 from rfl, Nat.and_two_pow_sub_one_eq_mod, ← hmod]
  show ((Pc6 (Pc5 (Pc4 V))).toInt32.toBitVec).toNat % 2 ^ 7 = (BitVec.ofNat 32 (nv (Pc6 (Pc5 (Pc4 V))) % 128)).toNat
  rw [BitVec.toNat_ofNat]
  have ht : ((Pc6 (Pc5 (Pc4 V))).toInt32.toBitVec).toNat = nv (Pc6 (Pc5 (Pc4 V))) % 2 ^ 32 := by
    rw [Int64.toBitVec_toInt32, BitVec.signExtend_eq_setWidth_of_le _ (by decide), BitVec.toNat_setWidth]
  rw [ht]
  omega

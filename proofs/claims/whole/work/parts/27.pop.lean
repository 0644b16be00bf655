/-! the bits of a word, counted in one go -/
def cb (x : Nat) : Nat → Nat
  | 0 => 0
  | n + 1 => cb x n + if x.testBit n = true then 1 else 0
theorem cb_le (x : Nat) : ∀ n, cb x n ≤ n
  | 0 => Nat.le_refl 0
  | n + 1 => by
    have := cb_le x n
    rw [cb]
    split <;> omega
theorem tb_split (r : Nat) {b : Nat} (hb : b < 256) (j : Nat) : (b + 256 * r).testBit j = if j < 8 then b.testBit j else r.testBit (j - 8) := by
  have h := Nat.testBit_two_pow_mul_add r (b := b) (i := 8) hb j
  rw [show 2 ^ 8 * r + b = b + 256 * r from by omega] at h
  exact h
theorem cb_split (r : Nat) {b : Nat} (hb : b < 256) : ∀ n, cb (b + 256 * r) (8 + n) = cb b 8 + cb r n
  | 0 => by
    have e : ∀ m, m ≤ 8 → cb (b + 256 * r) m = cb b m := by
      intro m
      induction m with
      | zero => intro _; rfl
      | succ m ih =>
        intro hm
        have t : (b + 256 * r).testBit m = b.testBit m := by rw [tb_split r hb, if_pos (by omega)]
        rw [cb, cb, ih (by omega), t]
    exact e 8 (by omega)
  | n + 1 => by
    show cb (b + 256 * r) (8 + n) + (if (b + 256 * r).testBit (8 + n) = true then 1 else 0) = _ + (cb r n + _)
    have t : (b + 256 * r).testBit (8 + n) = r.testBit n := by rw [tb_split r hb, if_neg (by omega), show 8 + n - 8 = n from by omega]
    rw [cb_split r hb n, t]
    omega
def MM (m : Nat) : Nat → Nat
  | 0 => 0
  | k + 1 => m + 256 * MM m k
theorem and_shift {b m s : Nat} (r M : Nat) (hb : b < 256) (hm : m < 2 ^ (8 - s)) (hs : s ≤ 8) : ((b + 256 * r) >>> s) &&& (m + 256 * M) = ((b >>> s) &&& m) + 256 * ((r >>> s) &&& M) := by
  have hm8 : m < 256 := Nat.lt_of_lt_of_le hm (Nat.pow_le_pow_right (n := 2) (by omega) (show 8 - s ≤ 8 by omega))
  apply Nat.eq_of_testBit_eq
  intro i
  rw [tb_split _ (Nat.lt_of_le_of_lt Nat.and_le_right hm8), Nat.testBit_and, tb_split M hm8, Nat.testBit_shiftRight, tb_split r hb]
  by_cases h : i < 8
  · rw [if_pos h, if_pos h, Nat.testBit_and, Nat.testBit_shiftRight]
    by_cases h2 : s + i < 8
    · rw [if_pos h2]
    · have z : m.testBit i = false := Nat.testBit_lt_two_pow (Nat.lt_of_lt_of_le hm (Nat.pow_le_pow_right (n := 2) (by omega) (by omega)))
      rw [z, Bool.and_false, Bool.and_false]
  · rw [if_neg h, if_neg h, if_neg (by omega), Nat.testBit_and, Nat.testBit_shiftRight, show s + i - 8 = s + (i - 8) from by omega]
def S1 (k x : Nat) : Nat := x - ((x >>> 1) &&& MM 85 k)
def S2 (k x : Nat) : Nat := (x &&& MM 51 k) + ((x >>> 2) &&& MM 51 k)
def S3 (k x : Nat) : Nat := (x + (x >>> 4)) &&& MM 15 k
theorem S1_split {b : Nat} (k r : Nat) (hb : b < 256) : S1 (k + 1) (b + 256 * r) = (b - ((b >>> 1) &&& 85)) + 256 * S1 k r := by
  unfold S1
  rw [MM, and_shift r _ hb (by decide) (by decide)]
  have h1 : (b >>> 1) &&& 85 ≤ b := Nat.le_trans Nat.and_le_left (by rw [Nat.shiftRight_eq_div_pow]; omega)
  have h2 : (r >>> 1) &&& MM 85 k ≤ r := Nat.le_trans Nat.and_le_left (by rw [Nat.shiftRight_eq_div_pow]; omega)
  omega
theorem S2_split {b : Nat} (k r : Nat) (hb : b < 256) : S2 (k + 1) (b + 256 * r) = ((b &&& 51) + ((b >>> 2) &&& 51)) + 256 * S2 k r := by
  unfold S2
  have h0 := and_shift (s := 0) (m := 51) r (MM 51 k) hb (by decide) (by decide)
  rw [Nat.shiftRight_zero, Nat.shiftRight_zero, Nat.shiftRight_zero] at h0
  rw [MM, h0, and_shift r _ hb (by decide) (by decide)]
  omega
theorem and15 {a c : Nat} (h : a < 16) : (a + 16 * c) &&& 15 = a := by
  rw [show (15 : Nat) = 2 ^ 4 - 1 from rfl, Nat.and_two_pow_sub_one_eq_mod]
  omega
theorem S3_split {c : Nat} (k d : Nat) (hc : c ≤ 68) (hd : d % 16 ≤ 4) : S3 (k + 1) (c + 256 * d) = ((c + c / 16) &&& 15) + 256 * S3 k d := by
  unfold S3
  rw [Nat.shiftRight_eq_div_pow, Nat.shiftRight_eq_div_pow, MM]
  have e : c + 256 * d + (c + 256 * d) / 2 ^ 4 = (c + c / 16 + 16 * (d % 16)) + 256 * (d + d / 2 ^ 4) := by omega
  have h0 := and_shift (s := 0) (b := c + c / 16 + 16 * (d % 16)) (m := 15) (d + d / 2 ^ 4) (MM 15 k) (by omega) (by decide) (by decide)
  rw [Nat.shiftRight_zero, Nat.shiftRight_zero, Nat.shiftRight_zero] at h0
  rw [e, h0]
  congr 1
  rw [show (15 : Nat) = 2 ^ 4 - 1 from rfl, Nat.and_two_pow_sub_one_eq_mod, Nat.and_two_pow_sub_one_eq_mod]
  omega
theorem pop8 : ∀ b, b < 256 → (let c := ((b - ((b >>> 1) &&& 85)) &&& 51) + (((b - ((b >>> 1) &&& 85)) >>> 2) &&& 51); ((c + c / 16) &&& 15) = cb b 8 ∧ c ≤ 68 ∧ c % 16 ≤ 4 ∧ b - ((b >>> 1) &&& 85) < 256) := by decide +kernel
theorem pops_step (b k r : Nat) (hb : b < 256) (hr : S2 k (S1 k r) % 16 ≤ 4) : S3 (k + 1) (S2 (k + 1) (S1 (k + 1) (b + 256 * r))) = cb b 8 + 256 * S3 k (S2 k (S1 k r)) ∧ S2 (k + 1) (S1 (k + 1) (b + 256 * r)) % 16 ≤ 4 := by
  obtain ⟨h1, h2, h3, h4⟩ := pop8 b hb
  rw [S1_split k r hb, S2_split k _ h4]
  refine ⟨?_, by omega⟩
  rw [S3_split k _ h2 hr, h1]
theorem pops0 (b : Nat) (hb : b < 256) : S3 1 (S2 1 (S1 1 b)) = cb b 8 ∧ S2 1 (S1 1 b) % 16 ≤ 4 := by
  have h := pops_step b 0 0 hb (by decide)
  rw [show b + 256 * 0 = b from by omega] at h
  refine ⟨?_, h.2⟩
  rw [h.1, show S3 0 (S2 0 (S1 0 0)) = 0 from rfl, Nat.mul_zero, Nat.add_zero]
/-- eight bytes' counts, side by side -/
theorem pops8 (x : Nat) (hx : x < 2 ^ 64) : ∃ p0 p1 p2 p3 p4 p5 p6 p7 : Nat, S3 8 (S2 8 (S1 8 x)) = p0 + 256 * (p1 + 256 * (p2 + 256 * (p3 + 256 * (p4 + 256 * (p5 + 256 * (p6 + 256 * p7)))))) ∧ cb x 64 = p0 + p1 + p2 + p3 + p4 + p5 + p6 + p7 ∧ p0 ≤ 8 ∧ p1 ≤ 8 ∧ p2 ≤ 8 ∧ p3 ≤ 8 ∧ p4 ≤ 8 ∧ p5 ≤ 8 ∧ p6 ≤ 8 ∧ p7 ≤ 8 := by
  have step : ∀ (k y : Nat), (∀ z, z < 256 ^ (k + 1) → S2 (k + 1) (S1 (k + 1) z) % 16 ≤ 4) → y < 256 ^ (k + 2) → S3 (k + 2) (S2 (k + 2) (S1 (k + 2) y)) = cb (y % 256) 8 + 256 * S3 (k + 1) (S2 (k + 1) (S1 (k + 1) (y / 256))) ∧ S2 (k + 2) (S1 (k + 2) y) % 16 ≤ 4 := by
    intro k y hk hy
    have e : y = y % 256 + 256 * (y / 256) := by omega
    have hy2 : y / 256 < 256 ^ (k + 1) := by
      rw [Nat.pow_succ] at hy
      omega
    have h := pops_step (y % 256) (k + 1) (y / 256) (Nat.mod_lt _ (by omega)) (hk _ hy2)
    rw [← e] at h
    exact h
  have q1 : ∀ z, z < 256 ^ 1 → S2 1 (S1 1 z) % 16 ≤ 4 := fun z hz => (pops0 z hz).2
  have q2 : ∀ z, z < 256 ^ 2 → S2 2 (S1 2 z) % 16 ≤ 4 := fun z hz => (step 0 z q1 hz).2
  have q3 : ∀ z, z < 256 ^ 3 → S2 3 (S1 3 z) % 16 ≤ 4 := fun z hz => (step 1 z q2 hz).2
  have q4 : ∀ z, z < 256 ^ 4 → S2 4 (S1 4 z) % 16 ≤ 4 := fun z hz => (step 2 z q3 hz).2
  have q5 : ∀ z, z < 256 ^ 5 → S2 5 (S1 5 z) % 16 ≤ 4 := fun z hz => (step 3 z q4 hz).2
  have q6 : ∀ z, z < 256 ^ 6 → S2 6 (S1 6 z) % 16 ≤ 4 := fun z hz => (step 4 z q5 hz).2
  have q7 : ∀ z, z < 256 ^ 7 → S2 7 (S1 7 z) % 16 ≤ 4 := fun z hz => (step 5 z q6 hz).2
  have cs : ∀ (y n : Nat), cb y (8 + n) = cb (y % 256) 8 + cb (y / 256) n := by
    intro y n
    have e : y = y % 256 + 256 * (y / 256) := by omega
    have h := cb_split (y / 256) (b := y % 256) (Nat.mod_lt _ (by omega)) n
    rw [← e] at h
    exact h
  have hx8 : x < 256 ^ 8 := by
    have : (256 : Nat) ^ 8 = 2 ^ 64 := by decide
    omega
  have r7 := (step 6 x q7 hx8).1
  have r6 := (step 5 (x / 256) q6 (by omega)).1
  have r5 := (step 4 (x / 256 / 256) q5 (by omega)).1
  have r4 := (step 3 (x / 256 / 256 / 256) q4 (by omega)).1
  have r3 := (step 2 (x / 256 / 256 / 256 / 256) q3 (by omega)).1
  have r2 := (step 1 (x / 256 / 256 / 256 / 256 / 256) q2 (by omega)).1
  have r1 := (step 0 (x / 256 / 256 / 256 / 256 / 256 / 256) q1 (by omega)).1
  have r0 := (pops0 (x / 256 / 256 / 256 / 256 / 256 / 256 / 256) (by omega)).1
  refine ⟨cb (x % 256) 8, cb (x / 256 % 256) 8, cb (x / 256 / 256 % 256) 8, cb (x / 256 / 256 / 256 % 256) 8, cb (x / 256 / 256 / 256 / 256 % 256) 8, cb (x / 256 / 256 / 256 / 256 / 256 % 256) 8, cb (x / 256 / 256 / 256 / 256 / 256 / 256 % 256) 8, cb (x / 256 / 256 / 256 / 256 / 256 / 256 / 256) 8, ?_, ?_, cb_le _ 8, cb_le _ 8, cb_le _ 8, cb_le _ 8, cb_le _ 8, cb_le _ 8, cb_le _ 8, cb_le _ 8⟩
  · rw [r7, r6, r5, r4, r3, r2, r1, r0]
  · rw [show (64 : Nat) = 8 + 56 from rfl, cs, show (56 : Nat) = 8 + 48 from rfl, cs, show (48 : Nat) = 8 + 40 from rfl, cs, show (40 : Nat) = 8 + 32 from rfl, cs, show (32 : Nat) = 8 + 24 from rfl, cs, show (24 : Nat) = 8 + 16 from rfl, cs, show (16 : Nat) = 8 + 8 from rfl, cs]
    omega
def tn (x : Int64) : Nat := x.toBitVec.toNat
theorem tn_lt (x : Int64) : tn x < 2 ^ 64 := x.toBitVec.isLt
theorem tn_and (x y : Int64) : tn (x &&& y) = tn x &&& tn y := by unfold tn; rw [Int64.toBitVec_and, BitVec.toNat_and]
theorem tn_add {x y : Int64} (h : tn x + tn y < 2 ^ 64) : tn (x + y) = tn x + tn y := by
  unfold tn at *
  rw [Int64.toBitVec_add, BitVec.toNat_add, Nat.mod_eq_of_lt h]
theorem tn_sub {x y : Int64} (h : tn y ≤ tn x) : tn (x - y) = tn x - tn y := by
  unfold tn at *
  rw [Int64.toBitVec_sub, BitVec.toNat_sub_of_le (BitVec.le_def.mpr h)]
theorem tn_shr (x : Int64) (k : Int32) (n : Nat) (h : ((k.toInt64.toUInt64 &&& Int64.toUInt64 63).toBitVec % 64).toNat = n) : tn ((x.toUInt64 >>> (k.toInt64.toUInt64 &&& Int64.toUInt64 63)).toInt64) = tn x >>> n := by
  unfold tn
  show (x.toUInt64 >>> (k.toInt64.toUInt64 &&& Int64.toUInt64 63)).toBitVec.toNat = x.toUInt64.toBitVec.toNat >>> n
  rw [UInt64.toBitVec_shiftRight]
  show (x.toUInt64.toBitVec >>> ((k.toInt64.toUInt64 &&& Int64.toUInt64 63).toBitVec % 64).toNat).toNat = _
  rw [h, BitVec.toNat_ushiftRight]
theorem MM8 : MM 85 8 = tn 6148914691236517205 ∧ MM 51 8 = tn 3689348814741910323 ∧ MM 15 8 = tn 1085102592571150095 := by decide +kernel
theorem dv256 (p A : Nat) (h : p < 256) : (p + 256 * A) / 256 = A := by omega
theorem dv65536 (p A : Nat) (h : p < 65536) : (p + 65536 * A) / 65536 = A := by omega
theorem dv32 (p A : Nat) (h : p < 4294967296) : (p + 4294967296 * A) / 4294967296 = A := by omega
theorem md128 (s K : Nat) (h : s < 128) : (s + 128 * K) % 128 = s := by omega
theorem id4 (p0 p1 p2 p3 p4 p5 p6 p7 : Nat) : p0 + 256 * (p1 + 256 * (p2 + 256 * (p3 + 256 * (p4 + 256 * (p5 + 256 * (p6 + 256 * p7)))))) + (p1 + 256 * (p2 + 256 * (p3 + 256 * (p4 + 256 * (p5 + 256 * (p6 + 256 * p7)))))) = ((p0 + p1) + 256 * (p1 + p2)) + 65536 * ((p2 + p3) + 256 * ((p3 + p4) + 256 * ((p4 + p5) + 256 * ((p5 + p6) + 256 * ((p6 + p7) + 256 * p7))))) := by omega
theorem id5 (p0 p1 p2 p3 p4 p5 p6 p7 : Nat) : ((p0 + p1) + 256 * (p1 + p2)) + 65536 * ((p2 + p3) + 256 * ((p3 + p4) + 256 * ((p4 + p5) + 256 * ((p5 + p6) + 256 * ((p6 + p7) + 256 * p7))))) + ((p2 + p3) + 256 * ((p3 + p4) + 256 * ((p4 + p5) + 256 * ((p5 + p6) + 256 * ((p6 + p7) + 256 * p7))))) = ((p0 + p1 + p2 + p3) + 256 * ((p1 + p2 + p3 + p4) + 256 * ((p2 + p3 + p4 + p5) + 256 * (p3 + p4 + p5 + p6)))) + 4294967296 * ((p4 + p5 + p6 + p7) + 256 * ((p5 + p6 + p7) + 256 * ((p6 + p7) + 256 * p7))) := by omega
theorem id6 (p0 p1 p2 p3 p4 p5 p6 p7 : Nat) : ((p0 + p1 + p2 + p3) + 256 * ((p1 + p2 + p3 + p4) + 256 * ((p2 + p3 + p4 + p5) + 256 * (p3 + p4 + p5 + p6)))) + 4294967296 * ((p4 + p5 + p6 + p7) + 256 * ((p5 + p6 + p7) + 256 * ((p6 + p7) + 256 * p7))) + ((p4 + p5 + p6 + p7) + 256 * ((p5 + p6 + p7) + 256 * ((p6 + p7) + 256 * p7))) = (p0 + p1 + p2 + p3 + p4 + p5 + p6 + p7) + 128 * (2 * ((p1 + p2 + p3 + p4) + 256 * ((p2 + p3 + p4 + p5) + 256 * (p3 + p4 + p5 + p6))) + 33554432 * ((p4 + p5 + p6 + p7) + 256 * ((p5 + p6 + p7) + 256 * ((p6 + p7) + 256 * p7))) + 2 * ((p5 + p6 + p7) + 256 * ((p6 + p7) + 256 * p7))) := by omega
/-- the eight counts, added up -/
theorem pops_add {p0 p1 p2 p3 p4 p5 p6 p7 t3 t4 t5 t6 : Nat} (q0 : p0 ≤ 8) (q1 : p1 ≤ 8) (q2 : p2 ≤ 8) (q3 : p3 ≤ 8) (q4 : p4 ≤ 8) (q5 : p5 ≤ 8) (q6 : p6 ≤ 8) (q7 : p7 ≤ 8)
    (e3 : t3 = p0 + 256 * (p1 + 256 * (p2 + 256 * (p3 + 256 * (p4 + 256 * (p5 + 256 * (p6 + 256 * p7))))))) (e4 : t4 = t3 + t3 / 256) (e5 : t5 = t4 + t4 / 65536) (e6 : t6 = t5 + t5 / 4294967296) : t6 % 128 = p0 + p1 + p2 + p3 + p4 + p5 + p6 + p7 := by
  have s0 : p0 < 256 := by clear e3 e4 e5 e6; omega
  have s1 : (p0 + p1) + 256 * (p1 + p2) < 65536 := by clear e3 e4 e5 e6; omega
  have s2 : (p0 + p1 + p2 + p3) + 256 * ((p1 + p2 + p3 + p4) + 256 * ((p2 + p3 + p4 + p5) + 256 * (p3 + p4 + p5 + p6))) < 4294967296 := by clear e3 e4 e5 e6; omega
  have s3 : p0 + p1 + p2 + p3 + p4 + p5 + p6 + p7 < 128 := by clear e3 e4 e5 e6; omega
  have f4 := e4
  rw [e3, dv256 _ _ s0, id4] at f4
  have f5 := e5
  rw [f4, dv65536 _ _ s1, id5] at f5
  rw [e6, f5, dv32 _ _ s2, id6, md128 _ _ s3]
theorem b64 {t : Nat} (h : t ≤ 1085102592571150095) : t + t / 2 ^ 8 < 2 ^ 64 := by omega
theorem b4of {t : Nat} (h : t ≤ 1085102592571150095) : t + t / 256 ≤ 1089341274573381151 := by omega
theorem b65 {t : Nat} (h : t ≤ 1089341274573381151) : t + t / 2 ^ 16 < 2 ^ 64 := by omega
theorem b5of {t : Nat} (h : t ≤ 1089341274573381151) : t + t / 65536 ≤ 1089357896626060000 := by omega
theorem b66 {t : Nat} (h : t ≤ 1089357896626060000) : t + t / 2 ^ 32 < 2 ^ 64 := by omega
theorem bitC_of (x a1 a2 a3 a4 a5 a6 : Int64) (d1 : a1 = x - ((x.toUInt64 >>> ((1 : Int32).toInt64.toUInt64 &&& Int64.toUInt64 63)).toInt64 &&& 6148914691236517205))
    (d2 : a2 = (a1 &&& 3689348814741910323) + ((a1.toUInt64 >>> ((2 : Int32).toInt64.toUInt64 &&& Int64.toUInt64 63)).toInt64 &&& 3689348814741910323))
    (d3 : a3 = (a2 + (a2.toUInt64 >>> ((4 : Int32).toInt64.toUInt64 &&& Int64.toUInt64 63)).toInt64) &&& 1085102592571150095)
    (d4 : a4 = a3 + (a3.toUInt64 >>> ((8 : Int32).toInt64.toUInt64 &&& Int64.toUInt64 63)).toInt64)
    (d5 : a5 = a4 + (a4.toUInt64 >>> ((16 : Int32).toInt64.toUInt64 &&& Int64.toUInt64 63)).toInt64)
    (d6 : a6 = a5 + (a5.toUInt64 >>> ((32 : Int32).toInt64.toUInt64 &&& Int64.toUInt64 63)).toInt64) : a6.toInt32 &&& 127 = nI (cb (tn x) 64) := by
  obtain ⟨m1, m2, m3⟩ := MM8
  obtain ⟨p0, p1, p2, p3, p4, p5, p6, p7, e8, ec, q0, q1, q2, q3, q4, q5, q6, q7⟩ := pops8 (tn x) (tn_lt x)
  have e1 : tn a1 = S1 8 (tn x) := by
    have t : tn ((x.toUInt64 >>> ((1 : Int32).toInt64.toUInt64 &&& Int64.toUInt64 63)).toInt64 &&& 6148914691236517205) = (tn x >>> 1) &&& MM 85 8 := by rw [tn_and, tn_shr x 1 1 (by decide), m1]
    rw [d1, tn_sub (by rw [t]; exact Nat.le_trans Nat.and_le_left (by rw [Nat.shiftRight_eq_div_pow]; omega)), t]
    rfl
  have c2 : tn 3689348814741910323 = 3689348814741910323 := by decide +kernel
  have b1 : tn a1 &&& MM 51 8 ≤ 3689348814741910323 := by
    rw [m2, c2]
    exact Nat.and_le_right
  have b2 : (tn a1 >>> 2) &&& MM 51 8 ≤ 3689348814741910323 := by
    rw [m2, c2]
    exact Nat.and_le_right
  have e2 : tn a2 = S2 8 (tn a1) := by
    have t1 : tn (a1 &&& 3689348814741910323) = tn a1 &&& MM 51 8 := by rw [tn_and, m2]
    have t2 : tn ((a1.toUInt64 >>> ((2 : Int32).toInt64.toUInt64 &&& Int64.toUInt64 63)).toInt64 &&& 3689348814741910323) = (tn a1 >>> 2) &&& MM 51 8 := by rw [tn_and, tn_shr a1 2 2 (by decide), m2]
    rw [d2, tn_add (by rw [t1, t2]; omega), t1, t2]
    rfl
  have b3 : tn a2 ≤ 7378697629483820646 := by
    rw [e2]
    unfold S2
    omega
  have e3 : tn a3 = S3 8 (tn a2) := by
    have t := tn_shr a2 4 4 (by decide)
    have t2 : tn a2 >>> 4 ≤ 461168601842738790 := by rw [Nat.shiftRight_eq_div_pow]; omega
    rw [d3, tn_and, tn_add (by rw [t]; omega), t, ← m3]
    rfl
  have b63 : tn a3 ≤ 1085102592571150095 := by
    have c3 : tn 1085102592571150095 = 1085102592571150095 := by decide +kernel
    rw [e3, S3, m3, c3]
    exact Nat.and_le_right
  rw [e2, e1, e8] at e3
  have e4 : tn a4 = tn a3 + tn a3 / 256 := by
    have t := tn_shr a3 8 8 (by decide)
    rw [Nat.shiftRight_eq_div_pow] at t
    rw [d4, tn_add (by rw [t]; exact b64 b63), t]
  have b4 : tn a4 ≤ 1089341274573381151 := by
    rw [e4]
    exact b4of b63
  have e5 : tn a5 = tn a4 + tn a4 / 65536 := by
    have t := tn_shr a4 16 16 (by decide)
    rw [Nat.shiftRight_eq_div_pow] at t
    rw [d5, tn_add (by rw [t]; exact b65 b4), t]
  have b5 : tn a5 ≤ 1089357896626060000 := by
    rw [e5]
    exact b5of b4
  have e6 : tn a6 = tn a5 + tn a5 / 4294967296 := by
    have t := tn_shr a5 32 32 (by decide)
    rw [Nat.shiftRight_eq_div_pow] at t
    rw [d6, tn_add (by rw [t]; exact b66 b5), t]
  have e7 : tn a6 % 128 = cb (tn x) 64 := by
    rw [ec]
    exact pops_add q0 q1 q2 q3 q4 q5 q6 q7 e3 e4 e5 e6
  apply Int32.toBitVec_inj.mp
  apply BitVec.eq_of_toNat_eq
  rw [Int32.toBitVec_and, BitVec.toNat_and]
  have l1 : a6.toInt32.toBitVec.toNat = tn a6 % 2 ^ 32 := by
    show (a6.toBitVec.signExtend 32).toNat = _
    rw [BitVec.signExtend_eq_setWidth_of_le _ (by decide), BitVec.toNat_setWidth]
    rfl
  have l2 : (127 : Int32).toBitVec.toNat = 2 ^ 7 - 1 := by decide
  have l3 : (nI (cb (tn x) 64)).toBitVec.toNat = cb (tn x) 64 := by
    have := cb_le (tn x) 64
    show (cb (tn x) 64) % 2 ^ 32 = _
    omega
  rw [l1, l2, l3, Nat.and_two_pow_sub_one_eq_mod, ← e7]
  omega
theorem bitC_eq (x : Int64) : bitC x = nI (cb (tn x) 64) := bitC_of x _ _ _ _ _ _ rfl rfl rfl rfl rfl rfl
theorem cb_bl (x : Int64) : ∀ n, cb (tn x) n = cntB (bl x) n
  | 0 => rfl
  | n + 1 => by
    rw [cb, cntB, cb_bl x n]
    rfl
theorem cntB_word (p : Nat → Bool) (wd : Nat → Int64) (w : Nat) (h : ∀ i, i < 64 → bl (wd w) i = p (64 * w + i)) : ∀ n, n ≤ 64 → cntB p (64 * w + n) = cntB p (64 * w) + cntB (bl (wd w)) n
  | 0, _ => rfl
  | n + 1, hn => by
    show cntB p (64 * w + n) + (if p (64 * w + n) = true then 1 else 0) = cntB p (64 * w) + (cntB (bl (wd w)) n + _)
    rw [cntB_word p wd w h n (by omega), h n (by omega)]
    omega
theorem cntL_eq (wd : Nat → Int64) (p : Nat → Bool) (h : ∀ v, v < 4096 → bW wd v = p v) : ∀ n, n ≤ 64 → cntL wd n = nI (cntB p (64 * n))
  | 0, _ => rfl
  | n + 1, hn => by
    have hw : ∀ i, i < 64 → bl (wd n) i = p (64 * n + i) := by
      intro i hi
      have := h (64 * n + i) (by omega)
      unfold bW at this
      rw [show (64 * n + i) / 64 = n from by omega, show (64 * n + i) % 64 = i from by omega] at this
      exact this
    rw [cntL, cntL_eq wd p h n (by omega), bitC_eq, cb_bl, nI_add, show 64 * (n + 1) = 64 * n + 64 from by omega, cntB_word p wd n hw 64 (by omega)]
theorem sums_eq {f : Nat → Int32} {n : Nat} (hw : ∀ k, k < n → wN (f k) ≤ 2048) : cntL (fillG f n) 64 = nI (cntB (sumB f n) 4096) := cntL_eq _ _ (fill_sumB f n hw) 64 (by omega)

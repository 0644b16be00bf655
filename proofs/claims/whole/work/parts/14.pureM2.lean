/-! pure functions of the model, the second part; the family of bits is pasted from kit/laws/BITS.to-paste -/
/-! ===== Int32 by its bits: bt x i ===== -/
def bt (x : Int32) (i : Nat) : Bool := x.toBitVec.getLsbD i
theorem b_ext {x y : Int32} (h : ∀ i, i < 32 → bt x i = bt y i) : x = y := Int32.toBitVec_inj.mp (BitVec.eq_of_getLsbD_eq (fun i hi => h i hi))
theorem b_or (x y : Int32) (i : Nat) : bt (x ||| y) i = (bt x i || bt y i) := by unfold bt; rw [Int32.toBitVec_or, BitVec.getLsbD_or]
theorem b_and (x y : Int32) (i : Nat) : bt (x &&& y) i = (bt x i && bt y i) := by unfold bt; rw [Int32.toBitVec_and, BitVec.getLsbD_and]
theorem b_xor (x y : Int32) (i : Nat) : bt (x ^^^ y) i = (bt x i ^^ bt y i) := by unfold bt; rw [Int32.toBitVec_xor, BitVec.getLsbD_xor]
theorem b_big {x : Int32} {i : Nat} (h : 32 ≤ i) : bt x i = false := BitVec.getLsbD_of_ge _ _ h
theorem b_255 (i : Nat) : bt 255 i = decide (i < 8) := by
  rcases Nat.lt_or_ge i 32 with h | h
  · exact (by decide +kernel : ∀ i, i < 32 → bt 255 i = decide (i < 8)) i h
  · rw [b_big h, decide_eq_false (by omega)]
theorem b_65535 (i : Nat) : bt 65535 i = decide (i < 16) := by
  rcases Nat.lt_or_ge i 32 with h | h
  · exact (by decide +kernel : ∀ i, i < 32 → bt 65535 i = decide (i < 16)) i h
  · rw [b_big h, decide_eq_false (by omega)]
theorem b_m1 : ∀ i, i < 32 → bt (-1) i = true := by decide +kernel
theorem b_0 (i : Nat) : bt 0 i = false := BitVec.getLsbD_zero
theorem s_l : ∀ n, n < 32 → ((nI n &&& 31).toBitVec.smod 32).toNat = n := by decide +kernel
theorem s_u : ∀ n, n < 32 → (((nI n).toUInt32 &&& Int32.toUInt32 31).toBitVec % 32).toNat = n := by decide +kernel
theorem b_shl (n : Nat) (hn : n < 32) (x : Int32) {i : Nat} (hi : i < 32) : bt (x <<< (nI n &&& 31)) i = (decide (n ≤ i) && bt x (i - n)) := by
  unfold bt
  rw [Int32.toBitVec_shiftLeft]
  show (x.toBitVec <<< ((nI n &&& 31).toBitVec.smod 32).toNat).getLsbD i = _
  rw [s_l n hn, BitVec.getLsbD_shiftLeft]
  rcases Nat.lt_or_ge i n with h | h
  · simp [h, Nat.not_le.mpr h]
  · simp [hi, h, Nat.not_lt.mpr h]
theorem b_ushr (n : Nat) (hn : n < 32) (x : Int32) (i : Nat) : bt ((x.toUInt32 >>> ((nI n).toUInt32 &&& Int32.toUInt32 31)).toInt32) i = bt x (n + i) := by
  show (x.toUInt32 >>> ((nI n).toUInt32 &&& Int32.toUInt32 31)).toBitVec.getLsbD i = x.toUInt32.toBitVec.getLsbD (n + i)
  rw [UInt32.toBitVec_shiftRight]
  show (x.toUInt32.toBitVec >>> (((nI n).toUInt32 &&& Int32.toUInt32 31).toBitVec % 32).toNat).getLsbD i = _
  rw [s_u n hn, BitVec.getLsbD_ushiftRight]
theorem b_sshr (n : Nat) (hn : n < 32) (x : Int32) {i : Nat} (hi : i < 32) : bt (x >>> (nI n &&& 31)) i = if n + i < 32 then bt x (n + i) else bt x 31 := by
  unfold bt
  rw [Int32.toBitVec_shiftRight]
  show (x.toBitVec.sshiftRight ((nI n &&& 31).toBitVec.smod 32).toNat).getLsbD i = _
  rw [s_l n hn, BitVec.getLsbD_sshiftRight, BitVec.msb_eq_getLsbD_last]
  simp [hi]
theorem b_shl8 (x : Int32) {i : Nat} (hi : i < 32) : bt (x <<< ((8 : Int32) &&& 31)) i = (decide (8 ≤ i) && bt x (i - 8)) := b_shl 8 (by omega) x hi
theorem b_shl16 (x : Int32) {i : Nat} (hi : i < 32) : bt (x <<< ((16 : Int32) &&& 31)) i = (decide (16 ≤ i) && bt x (i - 16)) := b_shl 16 (by omega) x hi
theorem b_shl24 (x : Int32) {i : Nat} (hi : i < 32) : bt (x <<< ((24 : Int32) &&& 31)) i = (decide (24 ≤ i) && bt x (i - 24)) := b_shl 24 (by omega) x hi
theorem b_sshr8 (x : Int32) {i : Nat} (hi : i < 32) : bt (x >>> ((8 : Int32) &&& 31)) i = if 8 + i < 32 then bt x (8 + i) else bt x 31 := b_sshr 8 (by omega) x hi
-- a conversion in the log
theorem cv_step {z : StV} {g : Nat → Int32} {k : Nat} (hk : 3 ≤ k) (hk2 : k ≤ 23) (hg : ∀ j, g j = if 19 + k < j ∧ j ≤ 42 then zArr z (j - 3) else zArr z j) : ∀ j, upd g (19 + k) (g (19 + k - 3)) j = if 19 + (k - 1) < j ∧ j ≤ 42 then zArr z (j - 3) else zArr z j := by
  intro j
  rw [upd]
  by_cases h : j = 19 + k
  · rw [if_pos h, hg, if_neg (by omega), if_pos (by omega), h]
  · rw [if_neg h, hg]
    by_cases q : 19 + k < j ∧ j ≤ 42
    · rw [if_pos q, if_pos (by omega)]
    · rw [if_neg q, if_neg (by omega)]
theorem zArr_lo {a b c d e : Int32} {n m : Nat} {f g1 g2 g3 g1' g2' g3' : Nat → Int32} {j : Nat} (hj : j < 19) : zArr (a, b, c, d, e, n, m, f, g1, g2, g3) j = zArr (a, b, c, d, e, n, m, f, g1', g2', g3') j := by
  simp only [zArr]
  (repeat' split) <;> first | rfl | omega
theorem cv_arr {z : StV} {g : Nat → Int32} {a b c : Int32} {k : Nat} (hk : k = 2) (hg : ∀ j, g j = if 19 + k < j ∧ j ≤ 42 then zArr z (j - 3) else zArr z j) : ∀ j, j < 43 → upd (upd (upd g 19 a) 20 b) 21 c j = zArr (z.1, z.2.1, z.2.2.1, z.2.2.2.1, z.2.2.2.2.1, z.2.2.2.2.2.1, z.2.2.2.2.2.2.1, z.2.2.2.2.2.2.2.1, shF z.2.2.2.2.2.2.2.2.1 a, shF z.2.2.2.2.2.2.2.2.2.1 b, shF z.2.2.2.2.2.2.2.2.2.2 c) j := by
  intro j hj
  subst hk
  by_cases h1 : j < 19
  · simp only [upd]
    rw [if_neg (by omega), if_neg (by omega), if_neg (by omega), hg, if_neg (by omega)]
    exact zArr_lo h1
  · by_cases h2 : j < 22
    · rcases (show j = 19 ∨ j = 20 ∨ j = 21 from by omega) with rfl | rfl | rfl <;> rfl
    · simp only [upd]
      rw [if_neg (by omega), if_neg (by omega), if_neg (by omega), hg, if_pos (by omega)]
      obtain ⟨i, hi, hj3⟩ : ∃ i, i < 7 ∧ (j = 19 + 3 * (i + 1) ∨ j = 19 + 3 * (i + 1) + 1 ∨ j = 19 + 3 * (i + 1) + 2) := ⟨(j - 22) / 3, by omega, by omega⟩
      rcases hj3 with h | h | h
      · rw [h, show 19 + 3 * (i + 1) - 3 = 19 + 3 * i from by omega, zArr_l0 (by omega), zArr_l0 (by omega)]
        show _ = shF _ a (i + 1)
        rw [shF, if_neg (by omega), Nat.add_sub_cancel]
      · rw [h, show 19 + 3 * (i + 1) + 1 - 3 = 19 + 3 * i + 1 from by omega, zArr_l1 (by omega), zArr_l1 (by omega)]
        show _ = shF _ b (i + 1)
        rw [shF, if_neg (by omega), Nat.add_sub_cancel]
      · rw [h, show 19 + 3 * (i + 1) + 2 - 3 = 19 + 3 * i + 2 from by omega, zArr_l2 (by omega), zArr_l2 (by omega)]
        show _ = shF _ c (i + 1)
        rw [shF, if_neg (by omega), Nat.add_sub_cancel]
-- sums by booleans
theorem wN_ge {x : Int32} {n : Nat} (h : (n : Int) ≤ x.toInt) : n ≤ wN x := by
  unfold wN
  omega
def sumB (f : Nat → Int32) : Nat → Nat → Bool
  | 0, v => v == 0
  | k + 1, v => sumB f k v || (decide (wN (f k) ≤ v) && sumB f k (v - wN (f k)))
def bI (p : Nat → Bool) : Nat → Int32 := fun v => if p v = true then 1 else 0
def cntB (p : Nat → Bool) : Nat → Nat
  | 0 => 0
  | n + 1 => cntB p n + if p n = true then 1 else 0
theorem bI_t {p : Nat → Bool} {v : Nat} (h : ¬ bI p v = 0) : p v = true := by
  by_cases q : p v = true
  · exact q
  · exact absurd (by rw [bI, if_neg q]) h
theorem bI_f {p : Nat → Bool} {v : Nat} (h : bI p v = 0) : ¬ p v = true := by
  intro q
  rw [bI, if_pos q] at h
  exact absurd h (by decide)
theorem bI0_step {f : Nat → Int32} {h : Nat → Int32} {k : Nat} {x : Int32} (hg : ∀ v, v < k → h v = bI (sumB f 0) v) (hx : x = bI (sumB f 0) k) : ∀ v, v < k + 1 → upd h k x v = bI (sumB f 0) v := by
  intro v hv
  rw [upd]
  split
  · rename_i e
    rw [e, hx]
  · exact hg v (by omega)
theorem bI_z {f : Nat → Int32} {k : Nat} (h : k = 0) : 1 = bI (sumB f 0) k := by
  subst h
  rfl
theorem bI_nz {f : Nat → Int32} {k : Nat} (h : ¬ k = 0) : 0 = bI (sumB f 0) k := by
  rw [bI, if_neg (by rw [sumB]; simp [h])]
theorem sB_step {f : Nat → Int32} {h : Nat → Int32} {k2 v : Nat} {x : Int32} (hv1 : 1 ≤ v) (hv : v < 4096) (hg : ∀ u, h u = if v < u ∧ u < 4096 then bI (sumB f (k2 + 1)) u else bI (sumB f k2) u) (hx : x = bI (sumB f (k2 + 1)) v) : ∀ u, upd h v x u = if v - 1 < u ∧ u < 4096 then bI (sumB f (k2 + 1)) u else bI (sumB f k2) u := by
  intro u
  rw [upd]
  by_cases e : u = v
  · rw [if_pos e, hx, e, if_pos (by omega)]
  · rw [if_neg e, hg]
    by_cases q : v < u ∧ u < 4096
    · rw [if_pos q, if_pos (by omega)]
    · rw [if_neg q, if_neg (by omega)]
theorem sB_x1 {f : Nat → Int32} {h : Nat → Int32} {k2 v : Nat} (hg : ∀ u, h u = if v < u ∧ u < 4096 then bI (sumB f (k2 + 1)) u else bI (sumB f k2) u) (c : ¬ h v = 0) : 1 = bI (sumB f (k2 + 1)) v := by
  rw [hg, if_neg (by omega)] at c
  rw [bI, if_pos (by rw [sumB, bI_t c]; rfl)]
theorem sB_x2 {f : Nat → Int32} {h : Nat → Int32} {k2 v : Nat} (hg : ∀ u, h u = if v < u ∧ u < 4096 then bI (sumB f (k2 + 1)) u else bI (sumB f k2) u) (hw : wN (f k2) ≤ v) (hw1 : 1 ≤ wN (f k2)) (hv : v < 4096) (c : ¬ h (v - wN (f k2)) = 0) : 1 = bI (sumB f (k2 + 1)) v := by
  rw [hg, if_neg (by omega)] at c
  rw [bI, if_pos (by rw [sumB, bI_t c, decide_eq_true hw]; simp)]
theorem sB_x3 {f : Nat → Int32} {h : Nat → Int32} {k2 v : Nat} (hg : ∀ u, h u = if v < u ∧ u < 4096 then bI (sumB f (k2 + 1)) u else bI (sumB f k2) u) (hw1 : 1 ≤ wN (f k2)) (hv : v < 4096) (c : h v = 0) (c2 : h (v - wN (f k2)) = 0) : 0 = bI (sumB f (k2 + 1)) v := by
  rw [hg, if_neg (by omega)] at c
  rw [hg, if_neg (by omega)] at c2
  have a1 := bI_f c
  have a2 := bI_f c2
  rw [bI, if_neg (by rw [sumB]; simp only [Bool.or_eq_true, Bool.and_eq_true]; rintro (q | q); exact a1 q; exact a2 q.2)]
theorem sB_end {f : Nat → Int32} {h : Nat → Int32} {k2 v : Nat} (hv : v < wN (f k2)) (hg : ∀ u, h u = if v < u ∧ u < 4096 then bI (sumB f (k2 + 1)) u else bI (sumB f k2) u) : ∀ u, u < 4096 → h u = bI (sumB f (k2 + 1)) u := by
  intro u hu
  rw [hg]
  by_cases q : v < u
  · rw [if_pos ⟨q, hu⟩]
  · rw [if_neg (fun r => q r.1)]
    unfold bI
    rw [sumB, decide_eq_false (by omega)]
    simp
-- the least number that is no sum, by taking weights
def lmS (p : Nat → Bool) : Nat → Nat → Nat
  | 0, k => k
  | m + 1, k => if p k = true then lmS p m (k + 1) else k
theorem lmS_at {p : Nat → Bool} {b : Nat} (h1 : ∀ v, 1 ≤ v → v ≤ b → p v = true) (h2 : ¬ p (b + 1) = true) : ∀ (m k : Nat), 1 ≤ k → k ≤ b + 1 → b + 1 ≤ k + m → lmS p m k = b + 1
  | 0, k, _, hk, hm => by
    show k = b + 1
    omega
  | m + 1, k, hk1, hk, hm => by
    rw [lmS]
    by_cases q : k = b + 1
    · rw [q, if_neg h2]
    · rw [if_pos (h1 k hk1 (by omega))]
      exact lmS_at h1 h2 m (k + 1) (by omega) (by omega) (by omega)
def sB2 (f : Nat → Int32) (t : Nat → Bool) : Nat → Nat → Bool
  | 0, v => v == 0
  | k + 1, v => sB2 f t k v || (t k && decide (wN (f k) ≤ v) && sB2 f t k (v - wN (f k)))
def smT (f : Nat → Int32) (t : Nat → Bool) : Nat → Nat
  | 0 => 0
  | k + 1 => smT f t k + if t k = true then wN (f k) else 0
def cntT (t : Nat → Bool) : Nat → Nat
  | 0 => 0
  | k + 1 => cntT t k + if t k = true then 1 else 0
theorem cntT_le (t : Nat → Bool) : ∀ n, cntT t n ≤ n
  | 0 => Nat.le_refl 0
  | n + 1 => by
    have := cntT_le t n
    rw [cntT]
    split <;> omega
theorem sB2_s {f : Nat → Int32} {t : Nat → Bool} {k v : Nat} : sB2 f t (k + 1) v = true ↔ sB2 f t k v = true ∨ (t k = true ∧ wN (f k) ≤ v ∧ sB2 f t k (v - wN (f k)) = true) := by
  rw [sB2]
  simp only [Bool.or_eq_true, Bool.and_eq_true, decide_eq_true_eq, and_assoc]
theorem sumB_s {f : Nat → Int32} {k v : Nat} : sumB f (k + 1) v = true ↔ sumB f k v = true ∨ (wN (f k) ≤ v ∧ sumB f k (v - wN (f k)) = true) := by
  rw [sumB]
  simp only [Bool.or_eq_true, Bool.and_eq_true, decide_eq_true_eq]
theorem sB2_mono {f : Nat → Int32} {t t' : Nat → Bool} : ∀ (n v : Nat), (∀ j, j < n → t j = true → t' j = true) → sB2 f t n v = true → sB2 f t' n v = true
  | 0, _, _, h => h
  | n + 1, v, hm, h => by
    rw [sB2_s] at h ⊢
    rcases h with h | ⟨h1, h2, h3⟩
    · exact Or.inl (sB2_mono n v (fun j hj => hm j (by omega)) h)
    · exact Or.inr ⟨hm n (by omega) h1, h2, sB2_mono n _ (fun j hj => hm j (by omega)) h3⟩
theorem sB2_add {f : Nat → Int32} {t : Nat → Bool} {k : Nat} (hk : t k = false) : ∀ (n v : Nat), k < n → wN (f k) ≤ v → sB2 f t n (v - wN (f k)) = true → sB2 f (fun j => if j = k then true else t j) n v = true
  | 0, _, hn, _, _ => absurd hn (Nat.not_lt_zero _)
  | n + 1, v, hn, hw, h => by
    rw [sB2_s] at h ⊢
    by_cases e : k = n
    · rcases h with h | ⟨h1, -, -⟩
      · refine Or.inr ⟨by rw [if_pos e.symm], by rw [← e]; exact hw, ?_⟩
        rw [← e]
        exact sB2_mono k _ (fun j hj hj2 => by rw [if_neg (by omega)]; exact hj2) (by rw [← e] at h; exact h)
      · rw [← e, hk] at h1
        cases h1
    · rcases h with h | ⟨h1, h2, h3⟩
      · exact Or.inl (sB2_add hk n v (by omega) hw h)
      · refine Or.inr ⟨by rw [if_neg (fun q => e q.symm)]; exact h1, by omega, ?_⟩
        refine sB2_add hk n _ (by omega) (by omega) ?_
        rw [show v - wN (f n) - wN (f k) = v - wN (f k) - wN (f n) from by omega]
        exact h3
theorem sB2_le {f : Nat → Int32} {t : Nat → Bool} : ∀ (n v : Nat), sB2 f t n v = true → v ≤ smT f t n
  | 0, v, h => by
    have : v = 0 := by simpa [sB2] using h
    omega
  | n + 1, v, h => by
    rw [sB2_s] at h
    rw [smT]
    rcases h with h | ⟨h1, h2, h3⟩
    · have := sB2_le n v h
      omega
    · have := sB2_le n _ h3
      rw [if_pos h1]
      omega
theorem sB2_of {f : Nat → Int32} {t : Nat → Bool} {B : Nat} : ∀ (n v : Nat), (∀ j, j < n → t j = true ∨ B < wN (f j)) → v ≤ B → sumB f n v = true → sB2 f t n v = true
  | 0, _, _, _, h => h
  | n + 1, v, hq, hv, h => by
    rw [sumB_s] at h
    rw [sB2_s]
    rcases h with h | ⟨h2, h3⟩
    · exact Or.inl (sB2_of n v (fun j hj => hq j (by omega)) hv h)
    · rcases hq n (by omega) with q | q
      · exact Or.inr ⟨q, h2, sB2_of n _ (fun j hj => hq j (by omega)) (by omega) h3⟩
      · omega
theorem sB2_to {f : Nat → Int32} {t : Nat → Bool} : ∀ (n v : Nat), sB2 f t n v = true → sumB f n v = true
  | 0, _, h => h
  | n + 1, v, h => by
    rw [sB2_s] at h
    rw [sumB_s]
    rcases h with h | ⟨h1, h2, h3⟩
    · exact Or.inl (sB2_to n v h)
    · exact Or.inr ⟨h2, sB2_to n _ h3⟩
theorem smT_add {f : Nat → Int32} {t : Nat → Bool} {k : Nat} (hk : t k = false) : ∀ n, smT f (fun j => if j = k then true else t j) n = smT f t n + if k < n then wN (f k) else 0
  | 0 => rfl
  | n + 1 => by
    have ih := smT_add (f := f) hk n
    rw [smT, smT, ih]
    by_cases e : n = k
    · subst e
      have a1 : ¬ n < n := by omega
      have a2 : n < n + 1 := by omega
      simp only [a1, a2, hk, Bool.false_eq_true, ↓reduceIte]
    · by_cases q : k < n
      · have a2 : k < n + 1 := by omega
        simp only [e, q, a2, ↓reduceIte]
        generalize (if t n = true then wN (f n) else 0) = X
        omega
      · have a2 : ¬ k < n + 1 := by omega
        simp only [e, q, a2, ↓reduceIte]
        generalize (if t n = true then wN (f n) else 0) = X
        omega
theorem cntT_add {t : Nat → Bool} {k : Nat} (hk : t k = false) : ∀ n, cntT (fun j => if j = k then true else t j) n = cntT t n + if k < n then 1 else 0
  | 0 => rfl
  | n + 1 => by
    have ih := cntT_add hk n
    rw [cntT, cntT, ih]
    by_cases e : n = k
    · subst e
      have a1 : ¬ n < n := by omega
      have a2 : n < n + 1 := by omega
      simp only [a1, a2, hk, Bool.false_eq_true, ↓reduceIte]
    · by_cases q : k < n
      · have a2 : k < n + 1 := by omega
        simp only [e, q, a2, ↓reduceIte]
        generalize (if t n = true then 1 else 0) = X
        omega
      · have a2 : ¬ k < n + 1 := by omega
        simp only [e, q, a2, ↓reduceIte]
        generalize (if t n = true then 1 else 0) = X
        omega
theorem bt_1 (i : Nat) : bt 1 i = decide (i = 0) := by
  rcases Nat.lt_or_ge i 32 with h | h
  · exact (by decide +kernel : ∀ i, i < 32 → bt 1 i = decide (i = 0)) i h
  · rw [b_big h, decide_eq_false (by omega)]
/-- a bit read out -/
theorem bt_read (x : Int32) {j : Nat} (hj : j < 12) : (x >>> (nI j &&& 31)) &&& 1 = if bt x j = true then 1 else 0 := by
  apply b_ext
  intro i hi
  rw [b_and, b_sshr j (by omega) x hi, bt_1]
  by_cases h0 : i = 0
  · subst h0
    rw [if_pos (by omega), Nat.add_zero]
    cases h : bt x j
    · rw [if_neg (by decide), b_0]
      rfl
    · rw [if_pos rfl, bt_1]
      rfl
  · rw [decide_eq_false h0, Bool.and_false]
    split
    · rw [bt_1, decide_eq_false h0]
    · rw [b_0]
theorem bt_set (x : Int32) {j k : Nat} (hj : j < 12) (hk : k < 12) : bt (x ||| ((1 : Int32) <<< (nI k &&& 31))) j = if j = k then true else bt x j := by
  rw [b_or, b_shl k (by omega) 1 (by omega), bt_1]
  by_cases h : j = k
  · subst h
    simp
  · rw [if_neg h]
    by_cases q : k ≤ j
    · rw [decide_eq_false (show ¬ j - k = 0 from by omega), Bool.and_false, Bool.or_false]
    · rw [decide_eq_false q, Bool.false_and, Bool.or_false]
def gInv (f : Nat → Int32) (n b c : Nat) (x : Int32) (t : Nat → Bool) : Prop :=
  cntT t n = c ∧ smT f t n = b ∧ b + 1 ≤ 2 ^ c ∧ (∀ v, v ≤ b → sB2 f t n v = true) ∧ ∀ j, j < 12 → bt x j = t j
theorem sB2_0 {f : Nat → Int32} {t : Nat → Bool} : ∀ n, sB2 f t n 0 = true
  | 0 => rfl
  | n + 1 => by
    rw [sB2_s]
    exact Or.inl (sB2_0 n)
theorem gInv_0 {f : Nat → Int32} {n : Nat} : gInv f n 0 0 0 (fun _ => false) := by
  have h1 : ∀ n, cntT (fun _ => false) n = 0 := by
    intro n
    induction n with
    | zero => rfl
    | succ n ih => rw [cntT, ih]; rfl
  have h2 : ∀ n, smT f (fun _ => false) n = 0 := by
    intro n
    induction n with
    | zero => rfl
    | succ n ih => rw [smT, ih]; rfl
  refine ⟨h1 n, h2 n, by decide, fun v hv => ?_, fun j _ => b_0 j⟩
  rw [show v = 0 from by omega]
  exact sB2_0 n
theorem gInv.le {f : Nat → Int32} {n b c : Nat} {x : Int32} {t : Nat → Bool} (h : gInv f n b c x t) : c ≤ n := by
  rw [← h.1]
  exact cntT_le t n
theorem gInv.bound {f : Nat → Int32} {n b c : Nat} {x : Int32} {t : Nat → Bool} (h : gInv f n b c x t) (hn : n ≤ 12) : b ≤ 4095 := by
  have h1 := h.le
  have h2 : 2 ^ c ≤ 2 ^ 12 := Nat.pow_le_pow_right (by decide) (by omega)
  have h3 := h.2.2.1
  omega
theorem gInv.bit_t {f : Nat → Int32} {n b c : Nat} {x : Int32} {t : Nat → Bool} (h : gInv f n b c x t) {k : Nat} (hk : k < 12) (hc : ¬ (x >>> (nI k &&& 31)) &&& 1 = 0) : t k = true := by
  rw [bt_read x hk, h.2.2.2.2 k hk] at hc
  cases q : t k
  · rw [q] at hc
    exact absurd rfl hc
  · rfl
theorem gInv.bit_f {f : Nat → Int32} {n b c : Nat} {x : Int32} {t : Nat → Bool} (h : gInv f n b c x t) {k : Nat} (hk : k < 12) (hc : (x >>> (nI k &&& 31)) &&& 1 = 0) : t k = false := by
  rw [bt_read x hk, h.2.2.2.2 k hk] at hc
  cases q : t k
  · rfl
  · rw [q] at hc
    exact absurd hc (by decide)
theorem gInv.add {f : Nat → Int32} {n b c : Nat} {x : Int32} {t : Nat → Bool} (h : gInv f n b c x t) {k : Nat} (hk : k < n) (hn : n ≤ 12) (ht : t k = false) (hw : wN (f k) ≤ b + 1) (hw1 : 1 ≤ wN (f k)) : gInv f n (b + wN (f k)) (c + 1) (x ||| ((1 : Int32) <<< (nI k &&& 31))) (fun j => if j = k then true else t j) := by
  obtain ⟨h1, h2, h3, h4, h5⟩ := h
  refine ⟨?_, ?_, ?_, fun v hv => ?_, fun j hj => ?_⟩
  · rw [cntT_add ht, if_pos hk, h1]
  · rw [smT_add ht, if_pos hk, h2]
  · rw [Nat.pow_succ]
    omega
  · by_cases q : v ≤ b
    · exact sB2_mono n v (fun j _ hj => by by_cases e : j = k; · rw [if_pos e]
                                           · rw [if_neg e]; exact hj) (h4 v q)
    · exact sB2_add ht n v hk (by omega) (h4 _ (by omega))
  · rw [bt_set x hj (by omega), h5 j hj]
theorem gInv.least {f : Nat → Int32} {n b c : Nat} {x : Int32} {t : Nat → Bool} (h : gInv f n b c x t) (hn : n ≤ 12) (hq : ∀ j, j < n → t j = true ∨ b + 1 < wN (f j)) : lmS (sumB f n) 4095 1 = b + 1 := by
  have hb := h.bound hn
  obtain ⟨h1, h2, h3, h4, h5⟩ := h
  refine lmS_at (fun v _ hv => sB2_to n v (h4 v hv)) (fun q => ?_) 4095 1 (Nat.le_refl 1) (by omega) (by omega)
  have := sB2_le n _ (sB2_of (B := b + 1) n (b + 1) hq (Nat.le_refl _) q)
  omega
theorem gq_a {f : Nat → Int32} {t : Nat → Bool} {m k b : Nat} (hq : m = 0 → ∀ j, j < k → t j = true ∨ b + 1 < wN (f j)) (ht : t k = true) : m = 0 → ∀ j, j < k + 1 → t j = true ∨ b + 1 < wN (f j) := by
  intro hm j hj
  by_cases e : j = k
  · exact Or.inl (by rw [e]; exact ht)
  · exact hq hm j (by omega)
theorem gq_b {f : Nat → Int32} {t : Nat → Bool} {m k b : Nat} (hq : m = 0 → ∀ j, j < k → t j = true ∨ b + 1 < wN (f j)) (hw : b + 1 < wN (f k)) : m = 0 → ∀ j, j < k + 1 → t j = true ∨ b + 1 < wN (f j) := by
  intro hm j hj
  by_cases e : j = k
  · exact Or.inr (by rw [e]; exact hw)
  · exact hq hm j (by omega)
-- settling
theorem i_rng {x : Int32} (h1 : ¬ x < 0) (h2 : x ≤ 65535) : 0 ≤ x.toInt ∧ x.toInt ≤ 65535 := by
  rw [i_lt] at h1
  rw [i_le] at h2
  have e1 : (0 : Int32).toInt = 0 := rfl
  have e2 : (65535 : Int32).toInt = 65535 := rfl
  omega
theorem i_sub {x y : Int32} (h1 : -2147483648 ≤ x.toInt - y.toInt) (h2 : x.toInt - y.toInt < 2147483648) : (x - y).toInt = x.toInt - y.toInt := by
  rw [Int32.toInt_sub]
  exact Int.bmod_eq_of_le (by omega) (by omega)
theorem i_add {x y : Int32} (h1 : -2147483648 ≤ x.toInt + y.toInt) (h2 : x.toInt + y.toInt < 2147483648) : (x + y).toInt = x.toInt + y.toInt := by
  rw [Int32.toInt_add]
  exact Int.bmod_eq_of_le (by omega) (by omega)
theorem i_mul {x y : Int32} (h1 : -2147483648 ≤ x.toInt * y.toInt) (h2 : x.toInt * y.toInt < 2147483648) : (x * y).toInt = x.toInt * y.toInt := by
  rw [Int32.toInt_mul]
  exact Int.bmod_eq_of_le (by omega) (by omega)
theorem tdv (a : Int) : (0 ≤ a → 16 * (a.tdiv 16) ≤ a ∧ a < 16 * (a.tdiv 16) + 16) ∧ (a ≤ 0 → a ≤ 16 * (a.tdiv 16) ∧ 16 * (a.tdiv 16) - 16 < a) := by
  have p (b : Int) (h : 0 ≤ b) : 16 * (b.tdiv 16) ≤ b ∧ b < 16 * (b.tdiv 16) + 16 := by
    rw [Int.tdiv_eq_ediv_of_nonneg h]
    omega
  refine ⟨p a, fun h => ?_⟩
  have h2 := p (-a) (by omega)
  rw [Int.neg_tdiv] at h2
  omega
theorem i_div16 {x : Int32} : (x / 16).toInt = x.toInt.tdiv 16 := by
  rw [Int32.toInt_div]
  have h1 := x.toInt_lt
  have h2 := x.le_toInt
  have h3 := tdv x.toInt
  show (x.toInt.tdiv 16).bmod (2 ^ 32) = _
  generalize x.toInt.tdiv 16 = q at *
  exact Int.bmod_eq_of_le (by omega) (by omega)
theorem sT_near2 {inp h rate q : Int32} {P : Int} (hp : 0 ≤ inp.toInt ∧ inp.toInt ≤ 65535) (hr : 0 ≤ h.toInt ∧ h.toInt ≤ 65535) (hne : ¬ h.toInt = inp.toInt) (hQ : (inp - h) * rate / 16 = q)
    (s1 : inp.toInt - h.toInt ≥ 0 → 0 ≤ P ∧ P ≤ 16 * (inp.toInt - h.toInt)) (s2 : inp.toInt - h.toInt ≤ 0 → P ≤ 0 ∧ 16 * (inp.toInt - h.toInt) ≤ P)
    (h3 : (0 ≤ P → 16 * q.toInt ≤ P ∧ P < 16 * q.toInt + 16) ∧ (P ≤ 0 → P ≤ 16 * q.toInt ∧ 16 * q.toInt - 16 < P)) : 0 ≤ (sTick h inp rate).toInt ∧ (sTick h inp rate).toInt ≤ 65535 ∧ ((sTick h inp rate).toInt - inp.toInt).natAbs + 1 ≤ (h.toInt - inp.toInt).natAbs := by
  have e0 : (0 : Int32).toInt = 0 := rfl
  have e1 : (1 : Int32).toInt = 1 := rfl
  have em : (-1 : Int32).toInt = -1 := rfl
  rw [sTick, hQ]
  clear hQ
  by_cases z : q = 0
  · rw [if_pos z]
    clear h3 s1 s2
    by_cases l1 : h < inp
    · rw [if_pos l1]
      rw [i_lt] at l1
      have : (h + 1).toInt = h.toInt + 1 := by rw [i_add (by omega) (by omega), e1]
      omega
    · rw [if_neg l1]
      by_cases l2 : inp < h
      · rw [if_pos l2]
        rw [i_lt] at l2
        have : (h + (-1)).toInt = h.toInt - 1 := by rw [i_add (by omega) (by omega), em]; omega
        omega
      · rw [i_lt] at l1 l2
        omega
  · rw [if_neg z]
    rw [i_eq, e0] at z
    rcases Int.le_total 0 (inp.toInt - h.toInt) with g | g
    · have a := s1 g
      have b := h3.1 a.1
      clear s1 s2 h3
      have ha : (h + q).toInt = h.toInt + q.toInt := i_add (by omega) (by omega)
      rw [ha]
      omega
    · have a := s2 g
      have b := h3.2 a.1
      clear s1 s2 h3
      have ha : (h + q).toInt = h.toInt + q.toInt := i_add (by omega) (by omega)
      rw [ha]
      omega
theorem sT_near {inp h rate : Int32} (hp : 0 ≤ inp.toInt ∧ inp.toInt ≤ 65535) (hr : 0 ≤ h.toInt ∧ h.toInt ≤ 65535) (hrt : 1 ≤ rate.toInt ∧ rate.toInt ≤ 16) (c : inM (h - inp) (-15) 15 = 0) : 0 ≤ (sTick h inp rate).toInt ∧ (sTick h inp rate).toInt ≤ 65535 ∧ ((sTick h inp rate).toInt - inp.toInt).natAbs + 1 ≤ (h.toInt - inp.toInt).natAbs := by
  have hd : (h - inp).toInt = h.toInt - inp.toInt := i_sub (by omega) (by omega)
  have hd2 : (inp - h).toInt = inp.toInt - h.toInt := i_sub (by omega) (by omega)
  have hne : ¬ h.toInt = inp.toInt := by
    intro e
    rw [inM, if_neg (by rw [i_lt, hd]; have e1 : (-15 : Int32).toInt = -15 := rfl; omega), if_neg (by rw [i_lt, hd]; have e1 : (15 : Int32).toInt = 15 := rfl; omega)] at c
    exact absurd c (by decide)
  have hm : ((inp - h) * rate).toInt = (inp.toInt - h.toInt) * rate.toInt := by
    rw [← hd2]
    have b1 : -(65535 * 16) ≤ (inp - h).toInt * rate.toInt := by
      rw [hd2]
      have : -65535 * rate.toInt ≤ (inp.toInt - h.toInt) * rate.toInt := Int.mul_le_mul_of_nonneg_right (by omega) (by omega)
      omega
    have b2 : (inp - h).toInt * rate.toInt ≤ 65535 * 16 := by
      rw [hd2]
      have : (inp.toInt - h.toInt) * rate.toInt ≤ 65535 * rate.toInt := Int.mul_le_mul_of_nonneg_right (by omega) (by omega)
      omega
    exact i_mul (by omega) (by omega)
  have hq : ((inp - h) * rate / 16).toInt = ((inp.toInt - h.toInt) * rate.toInt).tdiv 16 := by rw [i_div16, hm]
  have s1 : inp.toInt - h.toInt ≥ 0 → 0 ≤ (inp.toInt - h.toInt) * rate.toInt ∧ (inp.toInt - h.toInt) * rate.toInt ≤ 16 * (inp.toInt - h.toInt) := by
    intro hp9
    constructor
    · exact Int.mul_nonneg hp9 (by omega)
    · rw [Int.mul_comm 16]
      exact Int.mul_le_mul_of_nonneg_left (by omega) hp9
  have s2 : inp.toInt - h.toInt ≤ 0 → (inp.toInt - h.toInt) * rate.toInt ≤ 0 ∧ 16 * (inp.toInt - h.toInt) ≤ (inp.toInt - h.toInt) * rate.toInt := by
    intro hp9
    constructor
    · exact Int.mul_nonpos_of_nonpos_of_nonneg hp9 (by omega)
    · rw [Int.mul_comm 16]
      exact Int.mul_le_mul_of_nonpos_left hp9 (by omega)
  have h3 := tdv ((inp.toInt - h.toInt) * rate.toInt)
  rw [← hq] at h3
  generalize (inp.toInt - h.toInt) * rate.toInt = P at *
  clear hm hq hd hd2 c
  exact sT_near2 hp hr hne rfl s1 s2 h3
theorem ts_aux {inp h : Int32} (hp : 0 ≤ inp.toInt ∧ inp.toInt ≤ 65535) (hr : 0 ≤ h.toInt ∧ h.toInt ≤ 65535) : ((if 0 ≤ inp - h then inp - h else 0 - (inp - h)) < 16 ↔ inM (h - inp) (-15) 15 = 1) ∧ (inM (h - inp) (-15) 15 = 0 ∨ inM (h - inp) (-15) 15 = 1) := by
  have hd : (h - inp).toInt = h.toInt - inp.toInt := i_sub (by omega) (by omega)
  have hd2 : (inp - h).toInt = inp.toInt - h.toInt := i_sub (by omega) (by omega)
  have e0 : (0 : Int32).toInt = 0 := rfl
  have e15 : (15 : Int32).toInt = 15 := rfl
  have em : (-15 : Int32).toInt = -15 := rfl
  have e16 : (16 : Int32).toInt = 16 := rfl
  have hz : (0 - (inp - h)).toInt = h.toInt - inp.toInt := by rw [i_sub (by omega) (by omega), e0, hd2]; omega
  unfold inM
  by_cases a1 : h - inp < -15
  · rw [if_pos a1]
    rw [i_lt, hd, em] at a1
    refine ⟨⟨fun q => ?_, fun q => absurd q (by decide)⟩, Or.inl rfl⟩
    rw [if_pos (by rw [i_le, e0, hd2]; omega), i_lt, hd2, e16] at q
    omega
  · rw [if_neg a1]
    by_cases a2 : 15 < h - inp
    · rw [if_pos a2]
      rw [i_lt, hd, e15] at a2
      refine ⟨⟨fun q => ?_, fun q => absurd q (by decide)⟩, Or.inl rfl⟩
      rw [if_neg (by rw [i_le, e0, hd2]; omega), i_lt, hz, e16] at q
      omega
    · rw [if_neg a2]
      rw [i_lt, hd] at a1 a2
      rw [em] at a1
      rw [e15] at a2
      refine ⟨⟨fun _ => rfl, fun _ => ?_⟩, Or.inr rfl⟩
      by_cases b1 : 0 ≤ inp - h
      · rw [if_pos b1, i_lt, hd2, e16]
        omega
      · rw [if_neg b1, i_lt, hz, e16]
        omega
theorem ts_far {inp h : Int32} (hp : 0 ≤ inp.toInt ∧ inp.toInt ≤ 65535) (hr : 0 ≤ h.toInt ∧ h.toInt ≤ 65535) (c : inM (h - inp) (-15) 15 = 0) : ¬ (if 0 ≤ inp - h then inp - h else 0 - (inp - h)) < 16 := by
  intro q
  rw [(ts_aux hp hr).1, c] at q
  exact absurd q (by decide)
theorem ts_near {inp h : Int32} (hp : 0 ≤ inp.toInt ∧ inp.toInt ≤ 65535) (hr : 0 ≤ h.toInt ∧ h.toInt ≤ 65535) (c : ¬ inM (h - inp) (-15) 15 = 0) : (if 0 ≤ inp - h then inp - h else 0 - (inp - h)) < 16 :=
  (ts_aux hp hr).1.mpr ((ts_aux hp hr).2.resolve_left c)
-- sorting by ranks
theorem rnk_k (f : Nat → Int32) (i : Nat) : ∀ n, n ≤ i → rnk f i n ≤ n
  | n, _ => rnk_le f i n
theorem rnk_lt (f : Nat → Int32) (i : Nat) : ∀ n, i < n → rnk f i n < n
  | 0, h => absurd h (Nat.not_lt_zero _)
  | n + 1, h => by
    by_cases e : i = n
    · have h1 := rnk_le f i n
      rw [rnk, if_neg (by rw [e, i_lt]; omega)]
      omega
    · have h1 := rnk_lt f i n (by omega)
      rw [rnk]
      split <;> omega
def rkS (f : Nat → Int32) (n : Nat) (so : Nat → Int32) : Nat → (Nat → Int32)
  | 0 => so
  | k + 1 => upd (rkS f n so k) (rnk f k n) (f k)
def rkF (f : Nat → Int32) (n : Nat) (so : Nat → Int32) : Nat → Int32 := fun j => if j < n then rkS f n so n j else f j
-- the text, as the model reads it
def seesM (mx : Nat → Int32) (ln sp : Nat) (lo hi : Int32) : Int32 := if sp < ln then inM (mx sp) lo hi else 0
theorem nz_sees (mx : Nat → Int32) (ln sp : Nat) (lo hi : Int32) : narrow .boolean (.int (seesM mx ln sp lo hi)) = .int (seesM mx ln sp lo hi) := by
  unfold seesM
  split
  · exact nz_inM _ _ _
  · rfl
theorem sees_lt {mx : Nat → Int32} {ln sp : Nat} {lo hi : Int32} (h : ¬ seesM mx ln sp lo hi = 0) : sp < ln := by
  by_cases q : sp < ln
  · exact q
  · exact absurd (by rw [seesM, if_neg q]) h
theorem inM_01 {v lo hi : Int32} (h : ¬ inM v lo hi = 0) : inM v lo hi = 1 := by
  by_cases a : v < lo
  · rw [inM, if_pos a] at h
    exact absurd rfl h
  · by_cases b : hi < v
    · rw [inM, if_neg a, if_pos b] at h
      exact absurd rfl h
    · rw [inM, if_neg a, if_neg b]
theorem sees_0a {mx : Nat → Int32} {ln sp : Nat} {lo hi : Int32} (h : ln ≤ sp) : 0 = seesM mx ln sp lo hi := by rw [seesM, if_neg (by omega)]
theorem sees_0b {mx : Nat → Int32} {ln sp : Nat} {lo hi : Int32} (h : inM (mx sp) lo hi = 0) : 0 = seesM mx ln sp lo hi := by
  rw [seesM]
  split
  · rw [h]
  · rfl
theorem sees_1 {mx : Nat → Int32} {ln sp : Nat} {lo hi : Int32} (h1 : sp < ln) (h : ¬ inM (mx sp) lo hi = 0) : 1 = seesM mx ln sp lo hi := by rw [seesM, if_pos h1, inM_01 h]
def tkS (mx : Nat → Int32) (ln sp : Nat) (ch : Int32) : Nat := if seesM mx ln sp ch ch = 0 then sp else sp + 1
theorem tk_1 {mx : Nat → Int32} {ln sp : Nat} {ch : Int32} (h : ¬ seesM mx ln sp ch ch = 0) : tkS mx ln sp ch = sp + 1 := by rw [tkS, if_neg h]
theorem tk_0 {mx : Nat → Int32} {ln sp : Nat} {ch : Int32} (h : seesM mx ln sp ch ch = 0) : tkS mx ln sp ch = sp + 0 := by rw [tkS, if_pos h, Nat.add_zero]
def rdGo (mx : Nat → Int32) (ln : Nat) : Nat → Int32 → Nat → Int32 × Nat
  | 0, v, s => (v, s)
  | n + 1, v, s => if seesM mx ln s 48 57 = 0 then (v, s) else if 10 * v + mx s - 48 ≤ 2048 then rdGo mx ln n (10 * v + mx s - 48) (s + 1) else (v, s)
theorem rdGo_step {mx : Nat → Int32} {ln s : Nat} {v : Int32} (h : s < ln) : rdGo mx ln (ln - s) v s = if seesM mx ln s 48 57 = 0 then (v, s) else if 10 * v + mx s - 48 ≤ 2048 then rdGo mx ln (ln - (s + 1)) (10 * v + mx s - 48) (s + 1) else (v, s) := by
  rw [show ln - s = (ln - (s + 1)) + 1 from by omega, rdGo]
theorem rdGo_a {mx : Nat → Int32} {ln s : Nat} {v : Int32} (h : seesM mx ln s 48 57 = 0) : rdGo mx ln (ln - s) v s = (v, s) := by
  by_cases q : s < ln
  · rw [rdGo_step q, if_pos h]
  · rw [show ln - s = 0 from by omega, rdGo]
theorem rdGo_le1 (mx : Nat → Int32) (ln : Nat) : ∀ (n : Nat) (v : Int32) (s : Nat), (rdGo mx ln n v s).2 ≤ s + n
  | 0, _, s => Nat.le_refl s
  | n + 1, v, s => by
    have h := rdGo_le1 mx ln n (10 * v + mx s - 48) (s + 1)
    rw [rdGo]
    split
    · exact Nat.le_add_right s _
    · split
      · omega
      · exact Nat.le_add_right s _
theorem rdGo_le {mx : Nat → Int32} {ln s : Nat} {v : Int32} (h : s ≤ ln) : (rdGo mx ln (ln - s) v s).2 ≤ ln := by
  have := rdGo_le1 mx ln (ln - s) v s
  omega
def rdW (mx : Nat → Int32) (ln sp tm : Nat) (to : Nat → Int32) : Int32 × Nat × Nat × (Nat → Int32) :=
  if seesM mx ln sp 49 57 = 0 then (0, sp, tm, to) else (1, (rdGo mx ln (ln - sp) 0 sp).2, tm + 1, upd to tm (rdGo mx ln (ln - sp) 0 sp).1)
def rtGo (mx : Nat → Int32) (ln : Nat) : Nat → Int32 × Nat × Nat × (Nat → Int32) → Int32 × Nat × Nat × (Nat → Int32)
  | 0, x => x
  | n + 1, x => if x.1 = 0 then x else if 12 ≤ x.2.2.1 then x else if tkS mx ln x.2.1 44 = x.2.1 then x else rtGo mx ln n (rdW mx ln (x.2.1 + 1) x.2.2.1 x.2.2.2)
theorem rtGo_step {mx : Nat → Int32} {ln n9 s9 t9 : Nat} {g : Int32} {to9 : Nat → Int32} (hn : 1 ≤ n9) (hg : ¬ g = 0) (ht : ¬ 12 ≤ t9) (hk : tkS mx ln s9 44 = s9 + 1) : rtGo mx ln n9 (g, s9, t9, to9) = rtGo mx ln (n9 - 1) (rdW mx ln (s9 + 1) t9 to9) := by
  obtain ⟨m, rfl⟩ : ∃ m, n9 = m + 1 := ⟨n9 - 1, by omega⟩
  rw [rtGo, if_neg hg, if_neg ht, if_neg (by rw [hk]; exact (by omega : ¬ s9 + 1 = s9))]
  rfl
theorem rtGo_a {mx : Nat → Int32} {ln n9 s9 t9 : Nat} {g : Int32} {to9 : Nat → Int32} (hg : g = 0) : rtGo mx ln n9 (g, s9, t9, to9) = (g, s9, t9, to9) := by
  cases n9 with
  | zero => rfl
  | succ m => rw [rtGo, if_pos hg]
theorem rtGo_b {mx : Nat → Int32} {ln n9 s9 t9 : Nat} {g : Int32} {to9 : Nat → Int32} (ht : 12 ≤ t9) : rtGo mx ln n9 (g, s9, t9, to9) = (g, s9, t9, to9) := by
  cases n9 with
  | zero => rfl
  | succ m =>
    rw [rtGo]
    by_cases hg : g = 0
    · rw [if_pos hg]
    · rw [if_neg hg, if_pos ht]
theorem rtGo_c {mx : Nat → Int32} {ln n9 s9 t9 : Nat} {g : Int32} {to9 : Nat → Int32} (hk : tkS mx ln s9 44 = s9) : rtGo mx ln n9 (g, s9, t9, to9) = (g, s9, t9, to9) := by
  cases n9 with
  | zero => rfl
  | succ m =>
    rw [rtGo]
    by_cases hg : g = 0
    · rw [if_pos hg]
    · by_cases ht : 12 ≤ t9
      · rw [if_neg hg, if_pos ht]
      · rw [if_neg hg, if_neg ht, if_pos hk]
def rtR (ln : Nat) (x : Int32 × Nat × Nat × (Nat → Int32)) : Int32 := if ¬ x.1 = 0 ∧ x.2.1 = ln then 1 else 0
theorem rtR_1 {ln : Nat} {x : Int32 × Nat × Nat × (Nat → Int32)} (h1 : ¬ x.1 = 0) (h2 : x.2.1 = ln) : 1 = rtR ln x := by rw [rtR, if_pos ⟨h1, h2⟩]
theorem rtR_0a {ln : Nat} {x : Int32 × Nat × Nat × (Nat → Int32)} (h : x.1 = 0) : 0 = rtR ln x := by rw [rtR, if_neg (fun q => q.1 h)]
theorem rtR_0b {ln : Nat} {x : Int32 × Nat × Nat × (Nat → Int32)} (h : ¬ x.2.1 = ln) : 0 = rtR ln x := by rw [rtR, if_neg (fun q => h q.2)]
def feM (ln : Nat) (x : Int32 × Nat × Nat × (Nat → Int32)) : Nat := if rtR ln x = 0 then x.2.1 else ln
def ldF (to : Nat → Int32) (tm : Nat) : Nat → Int32 := fun j => if j < tm then to j else 0
theorem ld_step {to g : Nat → Int32} {tm k : Nat} {x : Int32} (hg : ∀ j, j < k → g j = ldF to tm j) (hx : x = ldF to tm k) : ∀ j, j < k + 1 → upd g k x j = ldF to tm j := by
  intro j hj
  rw [upd]
  split
  · rename_i e
    rw [hx, e]
  · exact hg j (by omega)

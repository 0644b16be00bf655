/-! pure functions that both sides are tied to -/
theorem k_incN (k n : Nat) : nI k + nI n = nI (k + n) := nI_add k n
theorem k_dec1 (k : Nat) (h : 1 ≤ k) : nI k + Int32.ofInt (-1) = nI (k - 1) := by
  obtain ⟨j, rfl⟩ : ∃ j, k = j + 1 := ⟨k - 1, by omega⟩
  exact k_dec j
theorem k_min {a b : Nat} (ha : a < 2 ^ 31) (hb : b < 2 ^ 31) : (if nI b < nI a then nI b else nI a) = nI (min a b) := by
  by_cases h : b < a
  · rw [if_pos ((nI_ltI hb ha).mpr h)]
    congr 1
    omega
  · rw [if_neg (fun q => h ((nI_ltI hb ha).mp q))]
    congr 1
    omega
theorem i_lt {a b : Int32} : a < b ↔ a.toInt < b.toInt := Int32.lt_iff_toInt_lt
theorem i_le {a b : Int32} : a ≤ b ↔ a.toInt ≤ b.toInt := Int32.le_iff_toInt_le
theorem i_eq {a b : Int32} : a = b ↔ a.toInt = b.toInt := Int32.toInt_inj.symm
def hTick (v leak : Int32) : Int32 := v - v * leak / 4096
def hBit (x b : Int32) : Int32 := if (x >>> (b &&& 31)) &&& 1 = 0 then 0 else 1
def sTick (v inp rate : Int32) : Int32 := if (inp - v) * rate / 16 = 0 then (if v < inp then v + 1 else if inp < v then v + (-1) else v) else v + (inp - v) * rate / 16
def wDig (a b : Int32) : Int32 := 10 * a + (b - 48)
def mixD (h : Int64) (v : Int32) : Int64 := 31 * h + v.toInt64
theorem sTick1 {v inp rate : Int32} (h : ¬ (inp - v) * rate / 16 = 0) : v + (inp - v) * rate / 16 = sTick v inp rate := by
  rw [sTick, if_neg h]
theorem sTick2 {v inp rate : Int32} (h : (inp - v) * rate / 16 = 0) (h2 : inp = v) : v + (inp - v) * rate / 16 = sTick v inp rate := by
  rw [sTick, if_pos h, h, if_neg (by rw [h2, i_lt]; omega), if_neg (by rw [h2, i_lt]; omega), Int32.add_zero]
theorem sTick3 {v inp rate : Int32} (h : (inp - v) * rate / 16 = 0) (h1 : ¬ inp = v) (h2 : inp ≤ v) : v + (-1) = sTick v inp rate := by
  rw [i_eq] at h1
  rw [i_le] at h2
  rw [sTick, if_pos h, if_neg (by rw [i_lt]; omega), if_pos (by rw [i_lt]; omega)]
theorem sTick4 {v inp rate : Int32} (h : (inp - v) * rate / 16 = 0) (h1 : ¬ inp = v) (h2 : ¬ inp ≤ v) : v + 1 = sTick v inp rate := by
  rw [i_eq] at h1
  rw [i_le] at h2
  rw [sTick, if_pos h, if_pos (by rw [i_lt]; omega)]
-- the weights
def sumW (f : Nat → Int32) : Nat → Int32
  | 0 => 0
  | k + 1 => sumW f k + f k
def rnk (f : Nat → Int32) (i : Nat) : Nat → Nat
  | 0 => 0
  | k + 1 => rnk f i k + if f i < f k ∨ (f k = f i ∧ k < i) then 1 else 0
theorem rnk_le (f : Nat → Int32) (i : Nat) : ∀ n, rnk f i n ≤ n
  | 0 => Nat.le_refl 0
  | n + 1 => by
    have := rnk_le f i n
    simp only [rnk]
    split <;> omega
def misp (f : Nat → Int32) (n : Nat) : Nat → Nat
  | 0 => 0
  | k + 1 => misp f n k + if rnk f k n = k then 0 else 1
def insA (f : Nat → Int32) (i n : Nat) (x : Int32) : Nat → Int32 := fun j => if j < i then f j else if j = i then x else if j ≤ n then f (j - 1) else f j
def delA (f : Nat → Int32) (i n : Nat) : Nat → Int32 := fun j => if i ≤ j ∧ j < n - 1 then f (j + 1) else f j
def insG (g : Nat → Int32) (x : Int32) : Nat → (Nat → Int32)
  | 0 => upd g 0 x
  | k + 1 => if g k < x then insG (upd g (k + 1) (g k)) x k else upd g (k + 1) x
theorem insG_z {g : Nat → Int32} {x : Int32} {j : Nat} (h : j = 0) : insG g x j = upd g j x := by
  subst h
  rfl
theorem insG_step {g : Nat → Int32} {x : Int32} {j : Nat} (hj : 1 ≤ j) (h : ¬ x ≤ g (j - 1)) : insG g x j = insG (upd g j (g (j - 1))) x (j - 1) := by
  obtain ⟨k, rfl⟩ : ∃ k, j = k + 1 := ⟨j - 1, by omega⟩
  rw [Nat.add_sub_cancel] at h ⊢
  rw [insG, if_pos (by rw [i_le] at h; rw [i_lt]; omega)]
theorem insG_stop {g : Nat → Int32} {x : Int32} {j : Nat} (hj : 1 ≤ j) (h : x ≤ g (j - 1)) : insG g x j = upd g j x := by
  obtain ⟨k, rfl⟩ : ∃ k, j = k + 1 := ⟨j - 1, by omega⟩
  rw [Nat.add_sub_cancel] at h
  rw [insG, if_neg (by rw [i_le] at h; rw [i_lt]; omega)]
def srtG (f : Nat → Int32) : Nat → (Nat → Int32)
  | 0 => f
  | k + 1 => insG (srtG f k) (srtG f k (k + 1)) (k + 1)
def errS (fv fc : Nat → Int32) : Nat → Int32
  | 0 => 0
  | k + 1 => errS fv fc k + (16 * fc k - fv k)
def shF (f : Nat → Int32) (x : Int32) : Nat → Int32 := fun j => if j = 0 then x else f (j - 1)
-- the sums
def wN (x : Int32) : Nat := x.toInt.toNat
theorem nI_wN {x : Int32} (h : 0 ≤ x.toInt) : nI (wN x) = x := by
  rw [i_eq, nI_toInt (by have := x.toInt_lt; unfold wN; omega), wN]
  omega
theorem wN_le {x : Int32} {n : Nat} (h : x.toInt ≤ n) : wN x ≤ n := by
  unfold wN
  omega
theorem k_m1I {k : Nat} (h : k < 2 ^ 31) : (nI k + (-1)).toInt = (k : Int) - 1 := by
  rcases Nat.eq_zero_or_pos k with q | q
  · subst q
    decide
  · obtain ⟨j, rfl⟩ : ∃ j, k = j + 1 := ⟨k - 1, by omega⟩
    rw [pk_m1, nI_toInt (by omega)]
    omega
def shV (wd : Nat → Int64) (n w : Nat) : Int64 :=
  if 0 < n % 64 ∧ n / 64 < w then (wd (w - n / 64) <<< ((nI (n % 64) : Int32).toInt64 &&& 63)) ||| ((wd (w - n / 64 - 1)).toUInt64 >>> ((nI (64 - n % 64) : Int32).toInt64.toUInt64 &&& Int64.toUInt64 63)).toInt64
  else wd (w - n / 64) <<< ((nI (n % 64) : Int32).toInt64 &&& 63)
theorem addG_step {g wd : Nat → Int64} {n j : Nat} {val : Int64} (hj : 1 ≤ j) (hj2 : j ≤ 64) (hg : ∀ w, g w = if j ≤ w ∧ w < 64 then wd w ||| shV wd n w else wd w) (hv : val = wd (j - 1) ||| shV wd n (j - 1)) : ∀ w, vp_updL g (j - 1) val w = if j - 1 ≤ w ∧ w < 64 then wd w ||| shV wd n w else wd w := by
  intro w
  rw [vp_updL]
  by_cases e : w = j - 1
  · rw [if_pos e, if_pos (by omega), hv, e]
  · rw [if_neg e, hg]
    by_cases q : j ≤ w ∧ w < 64
    · rw [if_pos q, if_pos (by omega)]
    · rw [if_neg q, if_neg (by omega)]
def addG (wd : Nat → Int64) (n : Nat) : Nat → Int64 := fun w => if n / 64 ≤ w then wd w ||| shV wd n w else wd w
def oneL : Nat → Int64 := fun w => if w = 0 then 1 else 0
def fillG (f : Nat → Int32) : Nat → (Nat → Int64)
  | 0 => oneL
  | k + 1 => addG (fillG f k) (wN (f k))
theorem addG_end {g wd : Nat → Int64} {n j : Nat} (hj : j = n / 64) (hg : ∀ w, g w = if j ≤ w ∧ w < 64 then wd w ||| shV wd n w else wd w) : ∀ w, w < 64 → g w = addG wd n w := by
  intro w hw
  rw [hg, addG, hj]
  by_cases q : n / 64 ≤ w
  · rw [if_pos ⟨q, hw⟩, if_pos q]
  · rw [if_neg (fun h => q h.1), if_neg q]
theorem zer_step {g : Nat → Int64} {k : Nat} (hg : ∀ w, w < k → g w = 0) : ∀ w, w < k + 1 → vp_updL g k 0 w = 0 := by
  intro w hw
  rw [vp_updL]
  split
  · rfl
  · exact hg w (by omega)
theorem zer_one {g : Nat → Int64} {k : Nat} {f : Nat → Int32} (hk : 64 ≤ k) (hg : ∀ w, w < k → g w = 0) : ∀ w, w < 64 → vp_updL g 0 1 w = fillG f 0 w := by
  intro w hw
  rw [vp_updL]
  show (if w = 0 then (1 : Int64) else g w) = if w = 0 then 1 else 0
  split
  · rfl
  · exact hg w (by omega)
def bitC (x : Int64) : Int32 :=
  let a1 := x - ((x.toUInt64 >>> ((1 : Int32).toInt64.toUInt64 &&& Int64.toUInt64 63)).toInt64 &&& 6148914691236517205)
  let a2 := (a1 &&& 3689348814741910323) + ((a1.toUInt64 >>> ((2 : Int32).toInt64.toUInt64 &&& Int64.toUInt64 63)).toInt64 &&& 3689348814741910323)
  let a3 := (a2 + (a2.toUInt64 >>> ((4 : Int32).toInt64.toUInt64 &&& Int64.toUInt64 63)).toInt64) &&& 1085102592571150095
  let a4 := a3 + (a3.toUInt64 >>> ((8 : Int32).toInt64.toUInt64 &&& Int64.toUInt64 63)).toInt64
  let a5 := a4 + (a4.toUInt64 >>> ((16 : Int32).toInt64.toUInt64 &&& Int64.toUInt64 63)).toInt64
  let a6 := a5 + (a5.toUInt64 >>> ((32 : Int32).toInt64.toUInt64 &&& Int64.toUInt64 63)).toInt64
  a6.toInt32 &&& 127
def cntL (wd : Nat → Int64) : Nat → Int32
  | 0 => 0
  | k + 1 => cntL wd k + bitC (wd k)
theorem k_cmp0 {x y : Int64} : lg_cmp x y = 0 ↔ x = y := by
  unfold lg_cmp
  by_cases h1 : y < x
  · rw [if_pos h1]
    constructor
    · intro h
      exact absurd h (by decide)
    · intro h
      rw [h, Int64.lt_iff_toInt_lt] at h1
      omega
  · rw [if_neg h1]
    by_cases h2 : x = y
    · rw [if_pos h2]
      exact ⟨fun _ => h2, fun _ => rfl⟩
    · rw [if_neg h2]
      constructor
      · intro h
        exact absurd h (by decide)
      · intro h
        exact absurd h h2
def bitL (wd : Nat → Int64) (k : Nat) : Int64 := (wd (k / 64) >>> ((nI (k % 64) : Int32).toInt64 &&& 63)) &&& 1
def lmGo (wd : Nat → Int64) : Nat → Nat → Nat
  | 0, k => k
  | n + 1, k => if bitL wd k = 0 then k else lmGo wd n (k + 1)
theorem lmGo_step {wd : Nat → Int64} {k : Nat} (h : k < 4096) : lmGo wd (4096 - k) k = if bitL wd k = 0 then k else lmGo wd (4096 - (k + 1)) (k + 1) := by
  rw [show 4096 - k = (4096 - (k + 1)) + 1 from by omega, lmGo]
-- the weighing
def wgT (x : Int32 × Int32 × Int32) (w leak off gl : Int32) (k : Nat) : Int32 × Int32 × Int32 :=
  if (if 16 * (x.2.2 + w) ≤ hTick x.1 leak + off then (1 : Int32) else 0) = hBit gl (nI k) then (hTick x.1 leak, x.2.1, x.2.2) else (hTick x.1 leak, x.2.1 ||| ((1 : Int32) <<< (nI k &&& 31)), x.2.2 + w)
def wgS (f : Nat → Int32) (leak off gl v0 : Int32) : Nat → Int32 × Int32 × Int32
  | 0 => (v0, 0, 0)
  | k + 1 => wgT (wgS f leak off gl v0 k) (f k) leak off gl k
theorem wgT_a {v kp cd w leak off gl : Int32} {k : Nat} (h1 : hTick v leak + off < 16 * (cd + w)) (h2 : 0 = hBit gl (nI k)) : (hTick v leak, kp, cd) = wgT (v, kp, cd) w leak off gl k := by
  rw [wgT, if_neg (show ¬ 16 * (cd + w) ≤ hTick v leak + off from by rw [i_le]; rw [i_lt] at h1; omega), if_pos h2]
theorem wgT_b {v kp cd w leak off gl : Int32} {k : Nat} (h1 : hTick v leak + off < 16 * (cd + w)) (h2 : ¬ 0 = hBit gl (nI k)) : (hTick v leak, kp ||| ((1 : Int32) <<< (nI k &&& 31)), cd + w) = wgT (v, kp, cd) w leak off gl k := by
  rw [wgT, if_neg (show ¬ 16 * (cd + w) ≤ hTick v leak + off from by rw [i_le]; rw [i_lt] at h1; omega), if_neg h2]
theorem wgT_c {v kp cd w leak off gl : Int32} {k : Nat} (h1 : ¬ hTick v leak + off < 16 * (cd + w)) (h2 : 1 = hBit gl (nI k)) : (hTick v leak, kp, cd) = wgT (v, kp, cd) w leak off gl k := by
  rw [wgT, if_pos (show 16 * (cd + w) ≤ hTick v leak + off from by rw [i_le]; rw [i_lt] at h1; omega), if_pos h2]
theorem wgT_d {v kp cd w leak off gl : Int32} {k : Nat} (h1 : ¬ hTick v leak + off < 16 * (cd + w)) (h2 : ¬ 1 = hBit gl (nI k)) : (hTick v leak, kp ||| ((1 : Int32) <<< (nI k &&& 31)), cd + w) = wgT (v, kp, cd) w leak off gl k := by
  rw [wgT, if_pos (show 16 * (cd + w) ≤ hTick v leak + off from by rw [i_le]; rw [i_lt] at h1; omega), if_neg h2]
-- the text
def eiGo (tx : Nat → Int32) : Nat → Nat → Int32 → Int32 → Nat
  | 0, at_, _, _ => at_
  | n + 1, at_, size, wb =>
    if tx at_ = 44 then (if size = 0 then at_ else if wb + 1 = 12 then at_ else eiGo tx n (at_ + 1) 0 (wb + 1))
    else if tx at_ < 48 then at_ else if tx at_ ≤ 57 then (if wDig size (tx at_) = 0 then at_ else if wDig size (tx at_) ≤ 2048 then eiGo tx n (at_ + 1) (wDig size (tx at_)) wb else at_) else at_
theorem eiGo_step {tx : Nat → Int32} {tl k : Nat} {size wb : Int32} (h : k < tl) : eiGo tx (tl - k) k size wb =
    if tx k = 44 then (if size = 0 then k else if wb + 1 = 12 then k else eiGo tx (tl - (k + 1)) (k + 1) 0 (wb + 1))
    else if tx k < 48 then k else if tx k ≤ 57 then (if wDig size (tx k) = 0 then k else if wDig size (tx k) ≤ 2048 then eiGo tx (tl - (k + 1)) (k + 1) (wDig size (tx k)) wb else k) else k := by
  rw [show tl - k = (tl - (k + 1)) + 1 from by omega, eiGo]
theorem eiGo_le1 (tx : Nat → Int32) : ∀ (n k : Nat) (size wb : Int32), eiGo tx n k size wb ≤ k + n
  | 0, k, _, _ => Nat.le_refl k
  | n + 1, k, size, wb => by
    have h1 := eiGo_le1 tx n (k + 1) 0 (wb + 1)
    have h2 := eiGo_le1 tx n (k + 1) (wDig size (tx k)) wb
    rw [eiGo]
    repeat' split
    all_goals omega
theorem eiGo_le (tx : Nat → Int32) (tl : Nat) : eiGo tx tl 0 0 0 ≤ tl := by
  have h := eiGo_le1 tx tl 0 0 0
  omega
def isC (tx : Nat → Int32) (tl : Nat) : Int32 := if 0 < tl ∧ ¬ tx (tl - 1) = 44 ∧ eiGo tx tl 0 0 0 = tl then 1 else 0
theorem isC_1 {tx : Nat → Int32} {tl : Nat} (h1 : 0 < tl) (h2 : ¬ tx (tl - 1) = 44) (h3 : eiGo tx tl 0 0 0 = tl) : 1 = isC tx tl := by rw [isC, if_pos ⟨h1, h2, h3⟩]
theorem isC_0a {tx : Nat → Int32} {tl : Nat} (h : ¬ 0 < tl) : 0 = isC tx tl := by rw [isC, if_neg (fun q => h q.1)]
theorem isC_0b {tx : Nat → Int32} {tl : Nat} (h : tx (tl - 1) = 44) : 0 = isC tx tl := by rw [isC, if_neg (fun q => q.2.1 h)]
theorem isC_0c {tx : Nat → Int32} {tl : Nat} (h : ¬ eiGo tx tl 0 0 0 = tl) : 0 = isC tx tl := by rw [isC, if_neg (fun q => h q.2.2)]
def wrS (tx f : Nat → Int32) : Nat → Nat × (Nat → Int32) × Int32
  | 0 => (0, f, 0)
  | k + 1 => if tx k = 44 then ((wrS tx f k).1 + 1, insA (wrS tx f k).2.1 (wrS tx f k).1 (wrS tx f k).1 (wrS tx f k).2.2, 0) else ((wrS tx f k).1, (wrS tx f k).2.1, wDig (wrS tx f k).2.2 (tx k))
-- the saved states
def rgOK (rg : Nat → Option Nat) (pa : Nat → Nat) : Prop := rg 0 = some (pa 0) ∧ rg 1 = some (pa 7) ∧ rg 2 = some (pa 14) ∧ rg 3 = some (pa 21) ∧ rg 4 = some (pa 28) ∧ rg 5 = some (pa 35)
def updS (S : Nat → StV) (k : Nat) (z : StV) : Nat → StV := fun j => if j = k then z else S j
abbrev svW (cI cQ : ClassId) (v0 v1 : Nat) (pa : Nat → Nat) (nx cnt : Nat) (S : Nat → StV) (rg : Nat → Option Nat) (R : va_W) : va_W := R ++ [(v0, .inr (1, [.ref v1, .int (nI nx), .int (nI cnt)])), (v1, .inl (cQ, 6, .inr (.inr (.inr (.inr rg))))), ((pa 0), .inr (2, [.int ((S 0).1), .int ((S 0).2.1), .int ((S 0).2.2.1), .int ((S 0).2.2.2.1), .int ((S 0).2.2.2.2.1), .ref (pa 1), .ref (pa 3)])), ((pa 1), .inr (6, [.ref (pa 2), .int (nI ((S 0).2.2.2.2.2.1))])), ((pa 2), .inl (cI, 12, .inl ((S 0).2.2.2.2.2.2.2.1))), ((pa 3), .inr (0, [.ref (pa 4), .ref (pa 5), .ref (pa 6), .int (nI ((S 0).2.2.2.2.2.2.1))])), ((pa 4), .inl (cI, 8, .inl ((S 0).2.2.2.2.2.2.2.2.1))), ((pa 5), .inl (cI, 8, .inl ((S 0).2.2.2.2.2.2.2.2.2.1))), ((pa 6), .inl (cI, 8, .inl ((S 0).2.2.2.2.2.2.2.2.2.2))), ((pa 7), .inr (2, [.int ((S 1).1), .int ((S 1).2.1), .int ((S 1).2.2.1), .int ((S 1).2.2.2.1), .int ((S 1).2.2.2.2.1), .ref (pa 8), .ref (pa 10)])), ((pa 8), .inr (6, [.ref (pa 9), .int (nI ((S 1).2.2.2.2.2.1))])), ((pa 9), .inl (cI, 12, .inl ((S 1).2.2.2.2.2.2.2.1))), ((pa 10), .inr (0, [.ref (pa 11), .ref (pa 12), .ref (pa 13), .int (nI ((S 1).2.2.2.2.2.2.1))])), ((pa 11), .inl (cI, 8, .inl ((S 1).2.2.2.2.2.2.2.2.1))), ((pa 12), .inl (cI, 8, .inl ((S 1).2.2.2.2.2.2.2.2.2.1))), ((pa 13), .inl (cI, 8, .inl ((S 1).2.2.2.2.2.2.2.2.2.2))), ((pa 14), .inr (2, [.int ((S 2).1), .int ((S 2).2.1), .int ((S 2).2.2.1), .int ((S 2).2.2.2.1), .int ((S 2).2.2.2.2.1), .ref (pa 15), .ref (pa 17)])), ((pa 15), .inr (6, [.ref (pa 16), .int (nI ((S 2).2.2.2.2.2.1))])), ((pa 16), .inl (cI, 12, .inl ((S 2).2.2.2.2.2.2.2.1))), ((pa 17), .inr (0, [.ref (pa 18), .ref (pa 19), .ref (pa 20), .int (nI ((S 2).2.2.2.2.2.2.1))])), ((pa 18), .inl (cI, 8, .inl ((S 2).2.2.2.2.2.2.2.2.1))), ((pa 19), .inl (cI, 8, .inl ((S 2).2.2.2.2.2.2.2.2.2.1))), ((pa 20), .inl (cI, 8, .inl ((S 2).2.2.2.2.2.2.2.2.2.2))), ((pa 21), .inr (2, [.int ((S 3).1), .int ((S 3).2.1), .int ((S 3).2.2.1), .int ((S 3).2.2.2.1), .int ((S 3).2.2.2.2.1), .ref (pa 22), .ref (pa 24)])), ((pa 22), .inr (6, [.ref (pa 23), .int (nI ((S 3).2.2.2.2.2.1))])), ((pa 23), .inl (cI, 12, .inl ((S 3).2.2.2.2.2.2.2.1))), ((pa 24), .inr (0, [.ref (pa 25), .ref (pa 26), .ref (pa 27), .int (nI ((S 3).2.2.2.2.2.2.1))])), ((pa 25), .inl (cI, 8, .inl ((S 3).2.2.2.2.2.2.2.2.1))), ((pa 26), .inl (cI, 8, .inl ((S 3).2.2.2.2.2.2.2.2.2.1))), ((pa 27), .inl (cI, 8, .inl ((S 3).2.2.2.2.2.2.2.2.2.2))), ((pa 28), .inr (2, [.int ((S 4).1), .int ((S 4).2.1), .int ((S 4).2.2.1), .int ((S 4).2.2.2.1), .int ((S 4).2.2.2.2.1), .ref (pa 29), .ref (pa 31)])), ((pa 29), .inr (6, [.ref (pa 30), .int (nI ((S 4).2.2.2.2.2.1))])), ((pa 30), .inl (cI, 12, .inl ((S 4).2.2.2.2.2.2.2.1))), ((pa 31), .inr (0, [.ref (pa 32), .ref (pa 33), .ref (pa 34), .int (nI ((S 4).2.2.2.2.2.2.1))])), ((pa 32), .inl (cI, 8, .inl ((S 4).2.2.2.2.2.2.2.2.1))), ((pa 33), .inl (cI, 8, .inl ((S 4).2.2.2.2.2.2.2.2.2.1))), ((pa 34), .inl (cI, 8, .inl ((S 4).2.2.2.2.2.2.2.2.2.2))), ((pa 35), .inr (2, [.int ((S 5).1), .int ((S 5).2.1), .int ((S 5).2.2.1), .int ((S 5).2.2.2.1), .int ((S 5).2.2.2.2.1), .ref (pa 36), .ref (pa 38)])), ((pa 36), .inr (6, [.ref (pa 37), .int (nI ((S 5).2.2.2.2.2.1))])), ((pa 37), .inl (cI, 12, .inl ((S 5).2.2.2.2.2.2.2.1))), ((pa 38), .inr (0, [.ref (pa 39), .ref (pa 40), .ref (pa 41), .int (nI ((S 5).2.2.2.2.2.2.1))])), ((pa 39), .inl (cI, 8, .inl ((S 5).2.2.2.2.2.2.2.2.1))), ((pa 40), .inl (cI, 8, .inl ((S 5).2.2.2.2.2.2.2.2.2.1))), ((pa 41), .inl (cI, 8, .inl ((S 5).2.2.2.2.2.2.2.2.2.2)))]
-- the converter's calls
def hItr (leak : Int32) : Nat → Int32 → Int32
  | 0, v => v
  | k + 1, v => hTick (hItr leak k v) leak
def sItr (inp rate : Int32) : Nat → Int32 → Int32
  | 0, v => v
  | k + 1, v => sTick (sItr inp rate k v) inp rate
theorem nz_hBit (x b : Int32) : narrow .boolean (.int (hBit x b)) = .int (hBit x b) := by
  unfold hBit
  split <;> rfl
def mdC (f : Nat → Int32) (n i : Nat) : Nat → Nat
  | 0 => 0
  | k + 1 => mdC f n i k + if (wgS f 0 0 ((1 : Int32) <<< (nI i &&& 31)) (nI (16 * k)) n).2.2 = nI k then 1 else 0
def tcGo (f : Nat → Int32) (n : Nat) (leak c0 : Int32) : Nat → Nat → Int32 → Int32
  | 0, _, _ => -1
  | m + 1, t, h => if (wgS f 0 0 0 (hTick h leak) n).2.2 = c0 then tcGo f n leak c0 m (t + 1) (hTick h leak) else nI t
theorem tcGo_step {f : Nat → Int32} {n t : Nat} {leak c0 h : Int32} (ht : t ≤ 200) : tcGo f n leak c0 (201 - t) t h = if (wgS f 0 0 0 (hTick h leak) n).2.2 = c0 then tcGo f n leak c0 (201 - (t + 1)) (t + 1) (hTick h leak) else nI t := by
  rw [show 201 - t = (201 - (t + 1)) + 1 from by omega, tcGo]
def tsGo (inp rate : Int32) : Nat → Nat → Int32 → Nat
  | 0, t, _ => t
  | m + 1, t, h => if (if 0 ≤ inp - h then inp - h else 0 - (inp - h)) < 16 then t else tsGo inp rate m (t + 1) (sTick h inp rate)
theorem tsGo_step {inp rate h : Int32} {t : Nat} (ht : t < 65536) : tsGo inp rate (65536 - t) t h = if (if 0 ≤ inp - h then inp - h else 0 - (inp - h)) < 16 then t else tsGo inp rate (65536 - (t + 1)) (t + 1) (sTick h inp rate) := by
  rw [show 65536 - t = (65536 - (t + 1)) + 1 from by omega, tsGo]
theorem k_chrN {a : Int32} (h1 : ¬ a < 33) (h2 : a ≤ 126) : ∃ n, n < 65536 ∧ a = nI n := by
  rw [i_lt] at h1
  rw [i_le] at h2
  have e1 : (33 : Int32).toInt = 33 := rfl
  have e2 : (126 : Int32).toInt = 126 := rfl
  refine ⟨wN a, ?_, (nI_wN (by omega)).symm⟩
  unfold wN
  omega
theorem k_chr {a : Int32} (h1 : ¬ a < 33) (h2 : a ≤ 126) : (a.toUInt32 % 65536).toInt32 = a := by
  obtain ⟨n, hn, rfl⟩ := k_chrN h1 h2
  rw [pk_char, pk_tn (by omega), Nat.mod_eq_of_lt hn]
theorem k_chr2 {a : Int32} (h1 : ¬ a < 33) (h2 : a ≤ 126) : vp_nar .char a = a := by
  obtain ⟨n, hn, rfl⟩ := k_chrN h1 h2
  unfold vp_nar
  rw [(pk_charN hn).1]
def digW (f : Nat → Int32) (n : Nat) (h0 : Int64) : Nat → Int64
  | 0 => h0
  | k + 1 => mixD (mixD (digW f n h0 k) (f k)) (nI (mdC f n k 256))
def digL (fv fk fc : Nat → Int32) (h0 : Int64) : Nat → Int64
  | 0 => h0
  | k + 1 => mixD (mixD (mixD (digL fv fk fc h0 k) (fc k)) (fk k)) (16 * fc k - fv k)
def mErr (n : Nat) (e : Int32) : UInt64 := if n = 0 then FP.dconst0 else FP.ddiv (FP.i2d e) (FP.i2d (nI n))
theorem mErr_0 {n : Nat} {e : Int32} (h : n = 0) : alike64 FP.dconst0 (mErr n e) = true := by rw [mErr, if_pos h]; exact alike64_refl _
theorem mErr_1 {n : Nat} {e : Int32} {r : UInt64} (h : ¬ n = 0) (hal : alike64 r (FP.ddiv (FP.i2d e) (FP.i2d (nI n))) = true) : alike64 r (mErr n e) = true := by rw [mErr, if_neg h]; exact hal

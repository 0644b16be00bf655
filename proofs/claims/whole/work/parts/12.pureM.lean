/-! pure functions of the model's arrays -/
def zArr (z : StV) : Nat → Int32 := fun k =>
  if k = 0 then z.1 else if k = 1 then z.2.1 else if k = 2 then z.2.2.1 else if k = 3 then z.2.2.2.1 else if k = 4 then z.2.2.2.2.1 else if k = 5 then nI z.2.2.2.2.2.1 else if k = 6 then nI z.2.2.2.2.2.2.1
  else if k < 19 then z.2.2.2.2.2.2.2.1 (k - 7) else if (k - 19) % 3 = 0 then z.2.2.2.2.2.2.2.2.1 ((k - 19) / 3) else if (k - 19) % 3 = 1 then z.2.2.2.2.2.2.2.2.2.1 ((k - 19) / 3) else z.2.2.2.2.2.2.2.2.2.2 ((k - 19) / 3)
theorem zArr_s0 (z : StV) (x : Int32) (j : Nat) : upd (zArr z) 0 x j = zArr (x, z.2) j := by
  by_cases h : j = 0
  · subst h
    rfl
  · simp only [upd, zArr, h, ↓reduceIte]
theorem zArr_s1 (z : StV) (x : Int32) (j : Nat) : upd (zArr z) 1 x j = zArr (z.1, x, z.2.2) j := by
  by_cases h : j = 1
  · subst h
    rfl
  · simp only [upd, zArr, h, ↓reduceIte]
theorem zArr_s2 (z : StV) (x : Int32) (j : Nat) : upd (zArr z) 2 x j = zArr (z.1, z.2.1, x, z.2.2.2) j := by
  by_cases h : j = 2
  · subst h
    rfl
  · simp only [upd, zArr, h, ↓reduceIte]
theorem zArr_s3 (z : StV) (x : Int32) (j : Nat) : upd (zArr z) 3 x j = zArr (z.1, z.2.1, z.2.2.1, x, z.2.2.2.2) j := by
  by_cases h : j = 3
  · subst h
    rfl
  · simp only [upd, zArr, h, ↓reduceIte]
theorem zArr_s4 (z : StV) (x : Int32) (j : Nat) : upd (zArr z) 4 x j = zArr (z.1, z.2.1, z.2.2.1, z.2.2.2.1, x, z.2.2.2.2.2) j := by
  by_cases h : j = 4
  · subst h
    rfl
  · simp only [upd, zArr, h, ↓reduceIte]
theorem zArr_s5 (z : StV) (x : Nat) (j : Nat) : upd (zArr z) 5 (nI x) j = zArr (z.1, z.2.1, z.2.2.1, z.2.2.2.1, z.2.2.2.2.1, x, z.2.2.2.2.2.2) j := by
  by_cases h : j = 5
  · subst h
    rfl
  · simp only [upd, zArr, h, ↓reduceIte]
theorem zArr_s6 (z : StV) (x : Nat) (j : Nat) : upd (zArr z) 6 (nI x) j = zArr (z.1, z.2.1, z.2.2.1, z.2.2.2.1, z.2.2.2.2.1, z.2.2.2.2.2.1, x, z.2.2.2.2.2.2.2) j := by
  by_cases h : j = 6
  · subst h
    rfl
  · simp only [upd, zArr, h, ↓reduceIte]
theorem zArr_w {z : StV} {k : Nat} (hk : k < 12) : zArr z (7 + k) = z.2.2.2.2.2.2.2.1 k := by
  unfold zArr
  rw [if_neg (by omega), if_neg (by omega), if_neg (by omega), if_neg (by omega), if_neg (by omega), if_neg (by omega), if_neg (by omega), if_pos (by omega), show 7 + k - 7 = k from by omega]
theorem zArr_wm {z : StV} {k : Nat} (h1 : 1 ≤ k) (hk : k ≤ 12) : zArr z (7 + k - 1) = z.2.2.2.2.2.2.2.1 (k - 1) := by
  rw [show 7 + k - 1 = 7 + (k - 1) from by omega]
  exact zArr_w (by omega)
theorem zArr_wp {z : StV} {k : Nat} (hk : k < 11) : zArr z (7 + k + 1) = z.2.2.2.2.2.2.2.1 (k + 1) := by
  rw [show 7 + k + 1 = 7 + (k + 1) from by omega]
  exact zArr_w (by omega)
theorem zArr_l0 {z : StV} {i : Nat} (hi : i < 8) : zArr z (19 + 3 * i) = z.2.2.2.2.2.2.2.2.1 i := by
  unfold zArr
  rw [if_neg (by omega), if_neg (by omega), if_neg (by omega), if_neg (by omega), if_neg (by omega), if_neg (by omega), if_neg (by omega), if_neg (by omega), if_pos (by omega), show (19 + 3 * i - 19) / 3 = i from by omega]
theorem zArr_l1 {z : StV} {i : Nat} (hi : i < 8) : zArr z (19 + 3 * i + 1) = z.2.2.2.2.2.2.2.2.2.1 i := by
  unfold zArr
  rw [if_neg (by omega), if_neg (by omega), if_neg (by omega), if_neg (by omega), if_neg (by omega), if_neg (by omega), if_neg (by omega), if_neg (by omega), if_neg (by omega), if_pos (by omega), show (19 + 3 * i + 1 - 19) / 3 = i from by omega]
theorem zArr_l2 {z : StV} {i : Nat} (hi : i < 8) : zArr z (19 + 3 * i + 2) = z.2.2.2.2.2.2.2.2.2.2 i := by
  unfold zArr
  rw [if_neg (by omega), if_neg (by omega), if_neg (by omega), if_neg (by omega), if_neg (by omega), if_neg (by omega), if_neg (by omega), if_neg (by omega), if_neg (by omega), if_neg (by omega), show (19 + 3 * i + 2 - 19) / 3 = i from by omega]
theorem zArr_cf {a b c d e : Int32} {n m : Nat} (f f' : Nat → Int32) {g1 g2 g3 : Nat → Int32} (h : ∀ j, j < 12 → f j = f' j) (j : Nat) : zArr (a, b, c, d, e, n, m, f, g1, g2, g3) j = zArr (a, b, c, d, e, n, m, f', g1, g2, g3) j := by
  simp only [zArr]
  (repeat' split) <;> first | rfl | exact h _ (by omega)
theorem zArr_sw (z : StV) {k : Nat} (hk : k < 12) (x : Int32) (j : Nat) : upd (zArr z) (7 + k) x j = zArr (z.1, z.2.1, z.2.2.1, z.2.2.2.1, z.2.2.2.2.1, z.2.2.2.2.2.1, z.2.2.2.2.2.2.1, upd z.2.2.2.2.2.2.2.1 k x, z.2.2.2.2.2.2.2.2) j := by
  by_cases h : j = 7 + k
  · subst h
    rw [upd, if_pos rfl, zArr_w hk]
    show x = upd _ k x k
    rw [upd, if_pos rfl]
  · rw [upd, if_neg h]
    by_cases h2 : 7 ≤ j ∧ j < 19
    · obtain ⟨i, rfl⟩ : ∃ i, j = 7 + i := ⟨j - 7, by omega⟩
      rw [zArr_w (by omega), zArr_w (by omega)]
      show _ = upd _ k x i
      rw [upd, if_neg (by omega)]
    · by_cases h3 : j < 7
      · rcases (show j = 0 ∨ j = 1 ∨ j = 2 ∨ j = 3 ∨ j = 4 ∨ j = 5 ∨ j = 6 from by omega) with rfl | rfl | rfl | rfl | rfl | rfl | rfl <;> rfl
      · simp only [zArr, show ¬ j = 0 from by omega, show ¬ j = 1 from by omega, show ¬ j = 2 from by omega, show ¬ j = 3 from by omega, show ¬ j = 4 from by omega, show ¬ j = 5 from by omega, show ¬ j = 6 from by omega, show ¬ j < 19 from by omega, ↓reduceIte]
def refB (w : Int32) : Int32 := if w ≤ 0 then 0 else 1
def inM (v lo hi : Int32) : Int32 := if v < lo then 0 else if hi < v then 0 else 1
theorem nz_inM (v lo hi : Int32) : narrow .boolean (.int (inM v lo hi)) = .int (inM v lo hi) := by
  unfold inM
  (repeat' split) <;> rfl
theorem inM_1 {v lo hi : Int32} (h1 : ¬ v < lo) (h2 : v ≤ hi) : inM v lo hi = 1 := by
  rw [inM, if_neg h1, if_neg (show ¬ hi < v from by rw [i_lt]; rw [i_le] at h2; omega)]
theorem inM_n {n a b : Nat} (h1 : a ≤ n) (h2 : n ≤ b) (hb : b < 2 ^ 31) : inM (nI n) (nI a) (nI b) = 1 :=
  inM_1 (nI_nlt h1 (by omega)) (nI_le h2 hb)
theorem inM_w {i n : Nat} (h : i < n) (hn : n ≤ 4096) : inM (nI i) 0 (nI n - 1) = 1 := by
  rw [show nI n - 1 = nI (n - 1) from pk_sub (a := n) (b := 1) (by omega)]
  exact inM_n (a := 0) (by omega) (by omega) (by omega)
def cpS (f g : Nat → Int32) (a b : Nat) : Nat → Int32 := fun j => if b ≤ j ∧ j < b + 43 then f (a + (j - b)) else g j
def sArr (T : Nat → StV) : Nat → Int32 := fun k => zArr (T (k / 43)) (k % 43)
def svS (T : Nat → StV) (sm : Nat) (z : StV) : Nat → StV := if sm = 6 then updS (fun j => if j < 5 then T (j + 1) else T j) 5 z else updS T sm z
theorem svS_b {T : Nat → StV} {sm : Nat} {z : StV} (h : ¬ sm = 6) (h2 : sm ≤ 6) : ∀ j, j < 258 → cpS (zArr z) (sArr T) 0 (43 * sm) j = sArr (svS T sm z) j := by
  intro j hj
  rw [svS, if_neg h]
  unfold cpS sArr updS
  by_cases q : j / 43 = sm
  · rw [if_pos (by omega), if_pos q, show 0 + (j - 43 * sm) = j % 43 from by omega]
  · rw [if_neg (by omega), if_neg q]
theorem svS_a {T : Nat → StV} {k : Nat} {z : StV} {h : Nat → Int32} (hk : k = 215) (hg : ∀ j, h j = if j < k then sArr T (j + 43) else sArr T j) : ∀ j, j < 258 → cpS (zArr z) h 0 (43 * (6 - 1)) j = sArr (svS T 6 z) j := by
  intro j hj
  rw [svS, if_pos rfl]
  unfold cpS
  rw [hg]
  unfold sArr updS
  by_cases q : j / 43 = 5
  · rw [if_pos (by omega), if_pos q, show 0 + (j - 43 * (6 - 1)) = j % 43 from by omega]
  · rw [if_neg (by omega), if_neg q, if_pos (by omega)]
    show _ = zArr (if j / 43 < 5 then T (j / 43 + 1) else T (j / 43)) (j % 43)
    rw [if_pos (by omega)]
    rw [show (j + 43) / 43 = j / 43 + 1 from by omega, show (j + 43) % 43 = j % 43 from by omega]
theorem und_z {T : Nat → StV} {z : StV} {sm j : Nat} (h : 1 ≤ sm) (hj : j < 43) : cpS (sArr T) (zArr z) (43 * (sm - 1)) 0 j = zArr (T (sm - 1)) j := by
  unfold cpS sArr
  rw [if_pos (by omega), show (43 * (sm - 1) + (j - 0)) / 43 = sm - 1 from by omega, show (43 * (sm - 1) + (j - 0)) % 43 = j from by omega]
theorem sTm2 {v inp rate : Int32} (h : (inp - v) * rate / 16 = 0) (h2 : ¬ inp ≤ v) : v + 1 = sTick v inp rate := by
  rw [i_le] at h2
  rw [sTick, if_pos h, if_pos (by rw [i_lt]; omega)]
theorem sTm3 {v inp rate : Int32} (h : (inp - v) * rate / 16 = 0) (h2 : inp ≤ v) (h3 : ¬ v ≤ inp) : v - 1 = sTick v inp rate := by
  rw [i_le] at h2 h3
  rw [sTick, if_pos h, if_neg (by rw [i_lt]; omega), if_pos (by rw [i_lt]; omega), Int32.sub_eq_add_neg]
theorem sTm4 {v inp rate : Int32} (h : (inp - v) * rate / 16 = 0) (h2 : inp ≤ v) (h3 : v ≤ inp) : v = sTick v inp rate := by
  rw [i_le] at h2 h3
  rw [sTick, if_pos h, if_neg (by rw [i_lt]; omega), if_neg (by rw [i_lt]; omega)]
theorem and1 (y : Int32) : y &&& 1 = 0 ∨ y &&& 1 = 1 := by
  obtain ⟨j, hj, h⟩ := pk_andE y (m := 1) 1 (by decide)
  rw [h]
  rcases (show j = 0 ∨ j = 1 from by omega) with rfl | rfl
  · exact Or.inl rfl
  · exact Or.inr rfl
theorem hBit_1 {x b : Int32} (h : (x >>> (b &&& 31)) &&& 1 = 1) : 1 = hBit x b := by rw [hBit, if_neg (by rw [h]; decide)]
theorem hBit_0 {x b : Int32} (h : ¬ (x >>> (b &&& 31)) &&& 1 = 1) : 0 = hBit x b := by
  rw [hBit, if_pos ((and1 _).resolve_right h)]
theorem wgM_a {v kp cd w leak off gl : Int32} {k : Nat} (h1 : hTick v leak + off < 16 * (cd + w)) (h2 : ¬ (gl >>> (nI k &&& 31)) &&& 1 = 1) : (hTick v leak, kp, cd) = wgT (v, kp, cd) w leak off gl k := wgT_a h1 (hBit_0 h2)
theorem wgM_b {v kp cd w leak off gl : Int32} {k : Nat} (h1 : hTick v leak + off < 16 * (cd + w)) (h2 : (gl >>> (nI k &&& 31)) &&& 1 = 1) : (hTick v leak, kp ||| ((1 : Int32) <<< (nI k &&& 31)), cd + w) = wgT (v, kp, cd) w leak off gl k := wgT_b h1 (by rw [← hBit_1 h2]; decide)
theorem wgM_c {v kp cd w leak off gl : Int32} {k : Nat} (h1 : ¬ hTick v leak + off < 16 * (cd + w)) (h2 : (gl >>> (nI k &&& 31)) &&& 1 = 1) : (hTick v leak, kp, cd) = wgT (v, kp, cd) w leak off gl k := wgT_c h1 (hBit_1 h2)
theorem wgM_d {v kp cd w leak off gl : Int32} {k : Nat} (h1 : ¬ hTick v leak + off < 16 * (cd + w)) (h2 : ¬ (gl >>> (nI k &&& 31)) &&& 1 = 1) : (hTick v leak, kp ||| ((1 : Int32) <<< (nI k &&& 31)), cd + w) = wgT (v, kp, cd) w leak off gl k := wgT_d h1 (by rw [← hBit_0 h2]; decide)
def delM (f : Nat → Int32) (i n : Nat) : Nat → Int32 := fun j => if j = n - 1 then 0 else if i ≤ j ∧ j < n - 1 then f (j + 1) else f j

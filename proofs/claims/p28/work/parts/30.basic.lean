/-! bits, sets of bits, rows at a known place -/
theorem p_u : ∀ n, n < 32 → (((nI n).toUInt32 &&& Int32.toUInt32 31).toBitVec % 32).toNat = n := by decide +kernel
theorem b_1 (i : Nat) : bt 1 i = decide (i = 0) := by
  rcases Nat.lt_or_ge i 32 with h | h
  · exact (by decide +kernel : ∀ i, i < 32 → bt 1 i = decide (i = 0)) i h
  · rw [b_big h, decide_eq_false (by omega)]
theorem b_7 (i : Nat) : bt 7 i = decide (i < 3) := by
  rcases Nat.lt_or_ge i 32 with h | h
  · exact (by decide +kernel : ∀ i, i < 32 → bt 7 i = decide (i < 3)) i h
  · rw [b_big h, decide_eq_false (by omega)]
theorem b_8 (i : Nat) : bt 8 i = decide (i = 3) := by
  rcases Nat.lt_or_ge i 32 with h | h
  · exact (by decide +kernel : ∀ i, i < 32 → bt 8 i = decide (i = 3)) i h
  · rw [b_big h, decide_eq_false (by omega)]
theorem b_iushr {n : Nat} (hn : n < 32) (x : Int32) (i : Nat) : bt (iushr x (nI n)) i = bt x (i + n) := by
  have h := pk_ushr x (nI n) n (p_u n hn)
  have h2 : (iushr x (nI n)).toBitVec.toNat = x.toBitVec.toNat / 2 ^ n := h
  unfold bt
  rw [← BitVec.testBit_toNat, ← BitVec.testBit_toNat, h2, Nat.testBit_div_two_pow]
theorem b_not (x : Int32) {i : Nat} (hi : i < 32) : bt (x ^^^ (-1)) i = !bt x i := by
  rw [b_xor, b_m1 i hi]
  cases bt x i <;> rfl
theorem b_and1 (x : Int32) : x &&& 1 = if bt x 0 = true then 1 else 0 := by
  apply b_ext
  intro i hi
  rw [b_and, b_1]
  by_cases h0 : i = 0
  · subst h0
    by_cases h : bt x 0 = true
    · rw [if_pos h, h, b_1]; rfl
    · rw [if_neg h, b_0]; simp [h]
  · by_cases h : bt x 0 = true
    · rw [if_pos h, b_1]; simp [h0]
    · rw [if_neg h, b_0]; simp [h0]
theorem ge32 {k : Nat} (hk : k < 32) : ¬ (32 : Int32) ≤ nI k := nI_ge (a := k) (b := 32) hk (by omega)
theorem has_nI {k : Nat} (hk : k < 32) (s : Int32) : fX7_has s (nI k) = if bt s k = true then 1 else 0 := by
  unfold fX7_has
  rw [if_neg (nI_pos (by omega)), if_neg (ge32 hk), b_and1, b_iushr hk, Nat.zero_add]
  by_cases h : bt s k = true
  · rw [if_pos h]; rfl
  · rw [if_neg h]; rfl
theorem has_m6 (s : Int32) : fX7_has s (-6) = 0 := by
  unfold fX7_has
  rw [if_pos (by decide)]
theorem bt_setOf {k : Nat} (hk : k < 32) {i : Nat} (hi : i < 32) : bt (fX7_setOf (nI k)) i = decide (i = k) := by
  unfold fX7_setOf
  rw [if_neg (nI_pos (by omega)), if_neg (ge32 hk), b_shl k hk 1 hi, b_1]
  by_cases h : i = k
  · subst h; simp
  · rcases Nat.lt_or_ge i k with h1 | h1
    · simp [h, show ¬ k ≤ i by omega]
    · simp [h, show ¬ i - k = 0 by omega]
theorem setOf_m6 : fX7_setOf (-6) = 0 := by decide
theorem setOf_eq {k : Nat} (hk : k < 32) : fX7_setOf (nI k) = 1 <<< (nI k &&& 31) := by
  unfold fX7_setOf
  rw [if_neg (nI_pos (by omega)), if_neg (ge32 hk)]
theorem rAt_nI {n j : Nat} (h : j < n) (hn : n < 2 ^ 31) (f : Nat → Int32) : rAt n f (nI j) = f j := by
  unfold rAt
  rw [if_neg (nI_pos (by omega)), if_neg (nI_ge h hn), nI_clamp (by omega)]
theorem rAt_m6 (n : Nat) (f : Nat → Int32) : rAt n f (-6) = 0 := by
  unfold rAt
  rw [if_pos (by decide)]
theorem rSet_nI {n j : Nat} (h : j < n) (hn : n < 2 ^ 31) (f : Nat → Int32) (v : Int32) : rSet n f (nI j) v = upd f j v := by
  unfold rSet
  rw [if_neg (nI_pos (by omega)), if_neg (nI_ge h hn), nI_clamp (by omega)]
theorem rAdd_nI {n j : Nat} (h : j < n) (hn : n < 2 ^ 31) (f : Nat → Int32) (v : Int32) : rAdd n f (nI j) v = upd f j (f j + v) := by
  unfold rAdd
  rw [if_neg (nI_pos (by omega)), if_neg (nI_ge h hn), nI_clamp (by omega)]
/-- the reference's cells at known places -/
theorem m_ix {a m k p N : Nat} (h : a + m * k + p < N) (hN : N < 2 ^ 31) : ¬ (((nI a + nI m * nI k) + nI p) < 0 ∨ N ≤ ((nI a + nI m * nI k) + nI p).toNatClampNeg) := by
  rw [pk_mul, nI_add, nI_add]
  exact nI_in h hN
theorem m_at {a m k p : Nat} (h : a + m * k + p < 2 ^ 31) : ((nI a + nI m * nI k) + nI p).toNatClampNeg = a + m * k + p := by
  rw [pk_mul, nI_add, nI_add, nI_clamp h]
theorem keyPart_nI {k p : Nat} (hk : k < 20) (hp : p < 4) (st : Nat → Int32) : fX8_keyPart st (nI k) (nI p) = some (st (4 + 4 * k + p)) := by
  unfold fX8_keyPart
  have h1 := m_ix (a := 4) (m := 4) (k := k) (p := p) (N := 844) (by omega) (by omega)
  have h2 := m_at (a := 4) (m := 4) (k := k) (p := p) (by omega)
  exact (if_neg h1).trans (by rw [← h2]; rfl)
theorem setKey_nI {k p : Nat} (hk : k < 20) (hp : p < 4) (st : Nat → Int32) (v : Int32) : fX8_setKey st (nI k) (nI p) v = some (upd st (4 + 4 * k + p) v) := by
  unfold fX8_setKey
  have h1 := m_ix (a := 4) (m := 4) (k := k) (p := p) (N := 844) (by omega) (by omega)
  have h2 := m_at (a := 4) (m := 4) (k := k) (p := p) (by omega)
  exact (if_neg h1).trans (by rw [← h2]; rfl)
theorem boxPart_nI {b p : Nat} (hb : b < 20) (hp : p < 2) (st : Nat → Int32) : fX8_boxPart st (nI b) (nI p) = some (st (84 + 2 * b + p)) := by
  unfold fX8_boxPart
  have h1 := m_ix (a := 84) (m := 2) (k := b) (p := p) (N := 844) (by omega) (by omega)
  have h2 := m_at (a := 84) (m := 2) (k := b) (p := p) (by omega)
  exact (if_neg h1).trans (by rw [← h2]; rfl)
theorem setBox_nI {b p : Nat} (hb : b < 20) (hp : p < 2) (st : Nat → Int32) (v : Int32) : fX8_setBox st (nI b) (nI p) v = some (upd st (84 + 2 * b + p) v) := by
  unfold fX8_setBox
  have h1 := m_ix (a := 84) (m := 2) (k := b) (p := p) (N := 844) (by omega) (by omega)
  have h2 := m_at (a := 84) (m := 2) (k := b) (p := p) (by omega)
  exact (if_neg h1).trans (by rw [← h2]; rfl)
theorem wrapPart_nI {w p : Nat} (hw : w < 120) (hp : p < 6) (st : Nat → Int32) : fX8_wrapPart st (nI w) (nI p) = some (st (124 + 6 * w + p)) := by
  unfold fX8_wrapPart
  have h1 := m_ix (a := 124) (m := 6) (k := w) (p := p) (N := 844) (by omega) (by omega)
  have h2 := m_at (a := 124) (m := 6) (k := w) (p := p) (by omega)
  exact (if_neg h1).trans (by rw [← h2]; rfl)
theorem setWrap_nI {w p : Nat} (hw : w < 120) (hp : p < 6) (st : Nat → Int32) (v : Int32) : fX8_setWrap st (nI w) (nI p) v = some (upd st (124 + 6 * w + p) v) := by
  unfold fX8_setWrap
  have h1 := m_ix (a := 124) (m := 6) (k := w) (p := p) (N := 844) (by omega) (by omega)
  have h2 := m_at (a := 124) (m := 6) (k := w) (p := p) (by omega)
  exact (if_neg h1).trans (by rw [← h2]; rfl)
/-- the tests of the reference's own fixed cells say nothing -/
theorem ix0 : ¬ ((0 : Int32) < 0 ∨ 844 ≤ (0 : Int32).toNatClampNeg) := by decide
theorem ix1 : ¬ ((1 : Int32) < 0 ∨ 844 ≤ (1 : Int32).toNatClampNeg) := by decide
theorem ix2 : ¬ ((2 : Int32) < 0 ∨ 844 ≤ (2 : Int32).toNatClampNeg) := by decide
theorem ix3 : ¬ ((3 : Int32) < 0 ∨ 844 ≤ (3 : Int32).toNatClampNeg) := by decide
theorem cl0 : (0 : Int32).toNatClampNeg = 0 := rfl
theorem cl1 : (1 : Int32).toNatClampNeg = 1 := rfl
theorem cl2 : (2 : Int32).toNatClampNeg = 2 := rfl
theorem cl3 : (3 : Int32).toNatClampNeg = 3 := rfl

/-! the count of the bits of an int -/
theorem bt_nI {n : Nat} (h : n < 2 ^ 32) (i : Nat) : bt (nI n) i = n.testBit i := by
  unfold bt
  rw [← BitVec.testBit_toNat, pk_tn h]
theorem nI_all (x : Int32) : ∃ n, n < 2 ^ 32 ∧ x = nI n := by
  refine ⟨x.toBitVec.toNat, x.toBitVec.isLt, ?_⟩
  apply b_ext
  intro i hi
  rw [bt_nI x.toBitVec.isLt]
  unfold bt
  rw [BitVec.testBit_toNat]
theorem lane_and {a b p q : Nat} (ha : a < 2 ^ 8) (hp : p < 2 ^ 8) : (2 ^ 8 * b + a) &&& (2 ^ 8 * q + p) = 2 ^ 8 * (b &&& q) + (a &&& p) := by
  apply Nat.eq_of_testBit_eq
  intro j
  rw [Nat.testBit_and, Nat.testBit_two_pow_mul_add b ha, Nat.testBit_two_pow_mul_add q hp, Nat.testBit_two_pow_mul_add (b &&& q) (Nat.and_lt_two_pow a hp)]
  split
  · rw [Nat.testBit_and]
  · rw [Nat.testBit_and]
def s1 (M n : Nat) : Nat := n - ((n / 2) &&& M)
def s2 (M n : Nat) : Nat := (n &&& M) + ((n / 4) &&& M)
def s3 (M n : Nat) : Nat := (n + n / 16) &&& M
theorem s1_lane {M a b : Nat} (ha : a < 256) : s1 (2 ^ 8 * M + 85) (2 ^ 8 * b + a) = 2 ^ 8 * s1 M b + s1 85 a := by
  unfold s1
  have h1 : (2 ^ 8 * b + a) / 2 = 2 ^ 8 * (b / 2) + (a / 2 + 128 * (b % 2)) := by omega
  have h2 : (a / 2 + 128 * (b % 2)) &&& 85 = (a / 2) &&& 85 := (by decide +kernel : ∀ a, a < 256 → ∀ c, c < 2 → (a / 2 + 128 * c) &&& 85 = (a / 2) &&& 85) a ha (b % 2) (Nat.mod_lt _ (by omega))
  rw [h1, lane_and (by omega) (by omega), h2]
  have h3 : (b / 2) &&& M ≤ b / 2 := Nat.and_le_left
  have h4 : (a / 2) &&& 85 ≤ a / 2 := Nat.and_le_left
  omega
theorem s2_lane {M a b : Nat} (ha : a < 256) : s2 (2 ^ 8 * M + 51) (2 ^ 8 * b + a) = 2 ^ 8 * s2 M b + s2 51 a := by
  unfold s2
  have h1 : (2 ^ 8 * b + a) / 4 = 2 ^ 8 * (b / 4) + (a / 4 + 64 * (b % 4)) := by omega
  have h2 : (a / 4 + 64 * (b % 4)) &&& 51 = (a / 4) &&& 51 := (by decide +kernel : ∀ a, a < 256 → ∀ c, c < 4 → (a / 4 + 64 * c) &&& 51 = (a / 4) &&& 51) a ha (b % 4) (Nat.mod_lt _ (by omega))
  rw [h1, lane_and (by omega) (by omega), lane_and (by omega) (by omega), h2]
  omega
theorem s3_lane {M a b : Nat} (ha : a < 256) (ha2 : a + a / 16 < 112) (hb : b % 16 < 8) : s3 (2 ^ 8 * M + 15) (2 ^ 8 * b + a) = 2 ^ 8 * s3 M b + s3 15 a := by
  unfold s3
  have h1 : (2 ^ 8 * b + a) + (2 ^ 8 * b + a) / 16 = 2 ^ 8 * (b + b / 16) + ((a + a / 16) + 16 * (b % 16)) := by omega
  have h2 : ((a + a / 16) + 16 * (b % 16)) &&& 15 = (a + a / 16) &&& 15 := by
    have e : (15 : Nat) = 2 ^ 4 - 1 := rfl
    rw [e, Nat.and_two_pow_sub_one_eq_mod, Nat.and_two_pow_sub_one_eq_mod]
    omega
  rw [h1, lane_and (by omega) (by omega), h2]
theorem byte_1 : ∀ a, a < 256 → s1 85 a < 256 := by decide +kernel
theorem byte_2 : ∀ a, a < 256 → s2 51 (s1 85 a) < 69 ∧ s2 51 (s1 85 a) % 16 < 8 ∧ s2 51 (s1 85 a) + s2 51 (s1 85 a) / 16 < 112 := by decide +kernel
theorem byte_3 : ∀ a, a < 256 → s3 15 (s2 51 (s1 85 a)) = fb_ct (fun i => a.testBit i) 8 := by decide +kernel
theorem ct8 (f : Nat → Bool) : fb_ct f 8 ≤ 8 := fb_ct_le f 8
theorem fold4 {m c0 c1 c2 c3 : Nat} (h0 : c0 ≤ 8) (h1 : c1 ≤ 8) (h2 : c2 ≤ 8) (h3 : c3 ≤ 8) (k3 : m = 2 ^ 8 * (2 ^ 8 * (2 ^ 8 * c3 + c2) + c1) + c0) : (m + m / 256 + (m + m / 256) / 65536) % 2 ^ 6 = c0 + c1 + c2 + c3 := by
  have f1 : m / 256 = 2 ^ 8 * (2 ^ 8 * c3 + c2) + c1 := by omega
  rw [f1]
  have f2 : (m + (2 ^ 8 * (2 ^ 8 * c3 + c2) + c1)) / 65536 = 2 ^ 8 * c3 + (c2 + c3) := by omega
  rw [f2]
  omega
theorem count_nI {n : Nat} (h : n < 2 ^ 32) : fJ6_bitCount_0f7a4 (nI n) = nI (fb_ct (fun i => n.testBit i) 32) := by
  obtain ⟨a0, b0, h0, rfl⟩ : ∃ a b, a < 256 ∧ n = 2 ^ 8 * b + a := ⟨n % 256, n / 256, by omega, by omega⟩
  obtain ⟨a1, b1, h1, rfl⟩ : ∃ a b, a < 256 ∧ b0 = 2 ^ 8 * b + a := ⟨b0 % 256, b0 / 256, by omega, by omega⟩
  obtain ⟨a2, a3, h2, rfl⟩ : ∃ a b, a < 256 ∧ b1 = 2 ^ 8 * b + a := ⟨b1 % 256, b1 / 256, by omega, by omega⟩
  have h3 : a3 < 256 := by omega
  have sh : ∀ {m k : Nat}, m < 2 ^ 32 → k < 32 → iushr (nI m) (nI k) = nI (m / 2 ^ k) := fun hm hk => pk_ushrN hm _ _ (p_u _ hk)
  have m1 : (1431655765 : Nat) = 2 ^ 8 * (2 ^ 8 * (2 ^ 8 * 85 + 85) + 85) + 85 := rfl
  have m2 : (858993459 : Nat) = 2 ^ 8 * (2 ^ 8 * (2 ^ 8 * 51 + 51) + 51) + 51 := rfl
  have m3 : (252645135 : Nat) = 2 ^ 8 * (2 ^ 8 * (2 ^ 8 * 15 + 15) + 15) + 15 := rfl
  have d1 := byte_1 a0 h0
  have d2 := byte_1 a1 h1
  have d3 := byte_1 a2 h2
  have d4 := byte_1 a3 h3
  have e1 := byte_2 a0 h0
  have e2 := byte_2 a1 h1
  have e3 := byte_2 a2 h2
  have e4 := byte_2 a3 h3
  generalize hn : 2 ^ 8 * (2 ^ 8 * (2 ^ 8 * a3 + a2) + a1) + a0 = n at h ⊢
  have k1 : s1 1431655765 n = 2 ^ 8 * (2 ^ 8 * (2 ^ 8 * s1 85 a3 + s1 85 a2) + s1 85 a1) + s1 85 a0 := by
    rw [← hn, m1, s1_lane h0, s1_lane h1, s1_lane h2]
  have k2 : s2 858993459 (s1 1431655765 n) = 2 ^ 8 * (2 ^ 8 * (2 ^ 8 * s2 51 (s1 85 a3) + s2 51 (s1 85 a2)) + s2 51 (s1 85 a1)) + s2 51 (s1 85 a0) := by
    rw [k1, m2, s2_lane d1, s2_lane d2, s2_lane d3]
  have k3 : s3 252645135 (s2 858993459 (s1 1431655765 n)) = 2 ^ 8 * (2 ^ 8 * (2 ^ 8 * s3 15 (s2 51 (s1 85 a3)) + s3 15 (s2 51 (s1 85 a2))) + s3 15 (s2 51 (s1 85 a1))) + s3 15 (s2 51 (s1 85 a0)) := by
    rw [k2, m3, s3_lane (by omega) e1.2.2 (by omega), s3_lane (by omega) e2.2.2 (by omega), s3_lane (by omega) e3.2.2 (by omega)]
  rw [byte_3 a0 h0, byte_3 a1 h1, byte_3 a2 h2, byte_3 a3 h3] at k3
  have c0 := ct8 (fun i => a0.testBit i)
  have c1 := ct8 (fun i => a1.testBit i)
  have c2 := ct8 (fun i => a2.testBit i)
  have c3 := ct8 (fun i => a3.testBit i)
  have hs : fb_ct (fun i => n.testBit i) 32 = fb_ct (fun i => a0.testBit i) 8 + fb_ct (fun i => a1.testBit i) 8 + fb_ct (fun i => a2.testBit i) 8 + fb_ct (fun i => a3.testBit i) 8 := by
    have t1 := fb_ct_split (fun i => n.testBit i) 8 24
    have t2 := fb_ct_split (fun k => n.testBit (8 + k)) 8 16
    have t3 := fb_ct_split (fun k => n.testBit (8 + (8 + k))) 8 8
    have q0 : fb_ct (fun i => n.testBit i) 8 = fb_ct (fun i => a0.testBit i) 8 := fb_ct_cong (fun k hk => by
      show n.testBit k = a0.testBit k
      rw [← hn, Nat.testBit_two_pow_mul_add _ h0, if_pos hk])
    have q1 : fb_ct (fun k => n.testBit (8 + k)) 8 = fb_ct (fun i => a1.testBit i) 8 := fb_ct_cong (fun k hk => by
      show n.testBit (8 + k) = a1.testBit k
      rw [← hn, Nat.testBit_two_pow_mul_add _ h0, if_neg (by omega), Nat.add_sub_cancel_left, Nat.testBit_two_pow_mul_add _ h1, if_pos hk])
    have q2 : fb_ct (fun k => n.testBit (8 + (8 + k))) 8 = fb_ct (fun i => a2.testBit i) 8 := fb_ct_cong (fun k hk => by
      show n.testBit (8 + (8 + k)) = a2.testBit k
      rw [← hn, Nat.testBit_two_pow_mul_add _ h0, if_neg (by omega), Nat.add_sub_cancel_left, Nat.testBit_two_pow_mul_add _ h1, if_neg (by omega), Nat.add_sub_cancel_left, Nat.testBit_two_pow_mul_add _ h2, if_pos hk])
    have q3 : fb_ct (fun k => n.testBit (8 + (8 + (8 + k)))) 8 = fb_ct (fun i => a3.testBit i) 8 := fb_ct_cong (fun k hk => by
      show n.testBit (8 + (8 + (8 + k))) = a3.testBit k
      rw [← hn, Nat.testBit_two_pow_mul_add _ h0, if_neg (by omega), Nat.add_sub_cancel_left, Nat.testBit_two_pow_mul_add _ h1, if_neg (by omega), Nat.add_sub_cancel_left, Nat.testBit_two_pow_mul_add _ h2, if_neg (by omega), Nat.add_sub_cancel_left])
    have t1' : fb_ct (fun i => n.testBit i) 32 = fb_ct (fun i => n.testBit i) 8 + fb_ct (fun k => n.testBit (8 + k)) 24 := t1
    have t2' : fb_ct (fun k => n.testBit (8 + k)) 24 = fb_ct (fun k => n.testBit (8 + k)) 8 + fb_ct (fun k => n.testBit (8 + (8 + k))) 16 := t2
    have t3' : fb_ct (fun k => n.testBit (8 + (8 + k))) 16 = fb_ct (fun k => n.testBit (8 + (8 + k))) 8 + fb_ct (fun k => n.testBit (8 + (8 + (8 + k)))) 8 := t3
    omega
  -- the code's own steps
  have x1 : nI n - (iushr (nI n) 1 &&& 1431655765) = nI (s1 1431655765 n) := by
    have e : iushr (nI n) 1 = nI (n / 2) := sh (k := 1) h (by omega)
    rw [e]
    show nI n - (nI (n / 2) &&& nI 1431655765) = _
    rw [nx_and, pk_sub (Nat.le_trans Nat.and_le_left (Nat.div_le_self _ _))]
    rfl
  have hlt1 : s1 1431655765 n < 2 ^ 32 := Nat.lt_of_le_of_lt (Nat.sub_le _ _) h
  have x2 : (nI (s1 1431655765 n) &&& 858993459) + (iushr (nI (s1 1431655765 n)) 2 &&& 858993459) = nI (s2 858993459 (s1 1431655765 n)) := by
    have e : iushr (nI (s1 1431655765 n)) 2 = nI (s1 1431655765 n / 4) := sh (k := 2) hlt1 (by omega)
    rw [e]
    show (nI (s1 1431655765 n) &&& nI 858993459) + (nI (s1 1431655765 n / 4) &&& nI 858993459) = _
    rw [nx_and, nx_and, nI_add]
    rfl
  have hlt2 : s2 858993459 (s1 1431655765 n) < 2 ^ 32 := by rw [k2]; omega
  have x3 : (nI (s2 858993459 (s1 1431655765 n)) + iushr (nI (s2 858993459 (s1 1431655765 n))) 4) &&& 252645135 = nI (s3 252645135 (s2 858993459 (s1 1431655765 n))) := by
    have e : iushr (nI (s2 858993459 (s1 1431655765 n))) 4 = nI (s2 858993459 (s1 1431655765 n) / 16) := sh (k := 4) hlt2 (by omega)
    rw [e, nI_add]
    show nI _ &&& nI 252645135 = _
    rw [nx_and]
    rfl
  unfold fJ6_bitCount_0f7a4
  rw [x1, x2, x3]
  generalize hm : s3 252645135 (s2 858993459 (s1 1431655765 n)) = m at k3
  have hlt3 : m < 2 ^ 32 := by omega
  have e8 : iushr (nI m) 8 = nI (m / 256) := sh (k := 8) hlt3 (by omega)
  rw [e8, nI_add]
  have hlt4 : m + m / 256 < 2 ^ 32 := by omega
  have e16 : iushr (nI (m + m / 256)) 16 = nI ((m + m / 256) / 65536) := sh (k := 16) hlt4 (by omega)
  rw [e16, nI_add]
  have e63 : (63 : Int32) = nI (2 ^ 6 - 1) := rfl
  rw [e63, nx_and, Nat.and_two_pow_sub_one_eq_mod, hs, fold4 c0 c1 c2 c3 k3]
theorem count_eq (x : Int32) : fJ6_bitCount_0f7a4 x = nI (fb_ct (bt x) 32) := by
  obtain ⟨n, hn, rfl⟩ := nI_all x
  rw [count_nI hn]
  congr 1
  exact fb_ct_cong (fun k _ => (bt_nI hn k).symm)
/-- of a set of numbers below 20 -/
theorem count_20 {x : Int32} (h : ∀ i, 20 ≤ i → bt x i = false) : fJ6_bitCount_0f7a4 x = nI (fb_ct (bt x) 20) := by
  rw [count_eq]
  congr 1
  have t : fb_ct (bt x) 32 = fb_ct (bt x) 20 + fb_ct (fun k => bt x (20 + k)) 12 := fb_ct_split (bt x) 20 12
  have z : fb_ct (fun k => bt x (20 + k)) 12 = 0 := fb_ct_zero.mpr (fun k _ => h (20 + k) (by omega))
  omega

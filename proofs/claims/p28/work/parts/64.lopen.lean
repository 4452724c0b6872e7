/-! two longs as a set of wraps (the rows wb_ begin as the kit's starting text); what can be opened, in the law -/
theorem wb_tb (n : Nat) : (lN n).toBitVec = BitVec.ofNat 64 n := rfl
theorem wb_inj {a b : Int64} (h : a.toBitVec = b.toBitVec) : a = b := Int64.toBitVec_inj.mp h
theorem wb_tn {n : Nat} (h : n < 2 ^ 64) : (lN n).toBitVec.toNat = n := by rw [wb_tb, BitVec.toNat_ofNat, Nat.mod_eq_of_lt h]
theorem wb_of (x : Int64) : ∃ n, n < 2 ^ 64 ∧ x = lN n := ⟨x.toBitVec.toNat, x.toBitVec.isLt, wb_inj (by rw [wb_tb]; simp)⟩
theorem wb_cu : ∀ k, k < 64 → ((nI k).toInt64.toUInt64 &&& Int64.toUInt64 63) = UInt64.ofNat k := by decide +kernel
theorem wb_lt2 {a b : Nat} (h : a < b) : 2 ^ a < 2 ^ b := Nat.pow_lt_pow_right (by decide) h
theorem wb_shr {n k : Nat} (hn : n < 2 ^ 64) (hk : k < 64) : ((lN n).toUInt64 >>> ((nI k).toInt64.toUInt64 &&& Int64.toUInt64 63)).toInt64 = lN (n / 2 ^ k) := by
  rw [wb_cu k hk]
  apply wb_inj
  apply BitVec.eq_of_toNat_eq
  show ((lN n).toUInt64 >>> UInt64.ofNat k).toNat = (BitVec.ofNat 64 _).toNat
  have h1 : (UInt64.ofNat k).toNat = k := by
    show (BitVec.ofNat 64 k).toNat = k
    rw [BitVec.toNat_ofNat, Nat.mod_eq_of_lt (by omega)]
  have h2 : (lN n).toUInt64.toNat = n := wb_tn hn
  rw [UInt64.toNat_shiftRight, h1, h2, Nat.mod_eq_of_lt hk, Nat.shiftRight_eq_div_pow, BitVec.toNat_ofNat, Nat.mod_eq_of_lt (Nat.lt_of_le_of_lt (Nat.div_le_self _ _) hn)]
theorem wb_and {a b : Nat} (ha : a < 2 ^ 64) (hb : b < 2 ^ 64) : lN a &&& lN b = lN (a &&& b) := by
  apply wb_inj
  rw [Int64.toBitVec_and, wb_tb, wb_tb, wb_tb]
  apply BitVec.eq_of_toNat_eq
  rw [BitVec.toNat_and, BitVec.toNat_ofNat, BitVec.toNat_ofNat, BitVec.toNat_ofNat, Nat.mod_eq_of_lt ha, Nat.mod_eq_of_lt hb, Nat.mod_eq_of_lt (Nat.and_lt_two_pow _ hb)]
theorem wb_mask {n k : Nat} (hn : n < 2 ^ 64) (hk : k < 64) : lN n &&& lN (2 ^ k - 1) = lN (n % 2 ^ k) := by
  rw [wb_and hn (by have := wb_lt2 hk; omega), Nat.and_two_pow_sub_one_eq_mod]
theorem cmp_0 (x y : Int64) : lg_cmp x y = 0 ↔ x = y := by
  unfold lg_cmp
  by_cases h : x > y
  · rw [if_pos h]
    constructor
    · intro q; exact absurd q (by decide)
    · intro q; subst q; exact absurd (Int64.lt_iff_toInt_lt.mp h) (Int.lt_irrefl _)
  · rw [if_neg h]
    by_cases h2 : x = y
    · rw [if_pos h2]; exact ⟨fun _ => h2, fun _ => rfl⟩
    · rw [if_neg h2]; exact ⟨fun q => absurd q (by decide), fun q => absurd q h2⟩
theorem wb_c : ∀ k, k < 64 → ((nI k).toInt64 &&& 63) = lN k := by decide +kernel
def obit (f : Nat → Int64) (w : Nat) : Bool := (f (w / 64)).toBitVec.getLsbD (w % 64)
def ob1 (f : Nat → Int64) (w : Nat) : Int32 := if obit f w = true then 1 else 0
theorem ob1_1 {f : Nat → Int64} {w : Nat} : ob1 f w = 1 ↔ obit f w = true := by
  unfold ob1
  cases obit f w <;> decide
theorem ob1_0 {f : Nat → Int64} {w : Nat} : ob1 f w = 0 ↔ ¬ obit f w = true := by
  unfold ob1
  cases obit f w <;> decide
theorem ob_bin (nw : Nat) (f : Nat → Int64) : Bin nw (ob1 f) := fun w _ => by
  unfold ob1
  cases obit f w
  · exact Or.inl rfl
  · exact Or.inr rfl
theorem w64 {w : Nat} (hw : w < 128) : nI w / 64 = nI (w / 64) := pk_div (d := 64) (by omega) (by omega) (by omega)
theorem r64 {w : Nat} (hw : w < 128) : nI w - nI w / 64 * 64 = nI (w % 64) := pk_rem (d := 64) (by omega) (by omega) (by omega)
theorem bit_val {x : Int64} {k : Nat} (hk : k < 64) : lushr x (nI k) &&& 1 = (if x.toBitVec.getLsbD k = true then 1 else 0) := by
  obtain ⟨n, hn, rfl⟩ := wb_of x
  unfold lushr
  rw [wb_shr hn hk]
  have e1 : (1 : Int64) = lN (2 ^ 1 - 1) := rfl
  have h2 : n / 2 ^ k < 2 ^ 64 := Nat.lt_of_le_of_lt (Nat.div_le_self _ _) hn
  have e2 : (lN n).toBitVec.getLsbD k = decide (n / 2 ^ k % 2 = 1) := by
    rw [wb_tb, BitVec.getLsbD_ofNat, Nat.testBit_eq_decide_div_mod_eq, decide_eq_true hk, Bool.true_and]
  rw [e2]
  have h3 : lN (n / 2 ^ k) &&& 1 = lN (n / 2 ^ k % 2 ^ 1) := by
    rw [e1]; exact wb_mask h2 (by omega)
  rw [h3]
  rcases Nat.mod_two_eq_zero_or_one (n / 2 ^ k) with h | h
  · have h' : n / 2 ^ k % 2 ^ 1 = 0 := h
    rw [h']; rfl
  · have h' : n / 2 ^ k % 2 ^ 1 = 1 := h
    rw [h']; rfl
theorem test_bit {f : Nat → Int64} {w : Nat} (hw : w < 128) : (lg_cmp ((lushr (f (nI w / 64).toNatClampNeg) (nI w - nI w / 64 * 64)) &&& 1) 1 = 0) ↔ obit f w = true := by
  rw [r64 hw, w64 hw, nI_clamp (by omega), bit_val (Nat.mod_lt _ (by omega)), cmp_0]
  unfold obit
  cases (f (w / 64)).toBitVec.getLsbD (w % 64) <;> decide
theorem ix64 {w : Nat} (hw : w < 128) : ¬ (nI w / 64 < 0 ∨ 2 ≤ (nI w / 64).toNatClampNeg) := by
  rw [w64 hw]
  exact nI_in (by omega) (by omega)
def setW (f : Nat → Int64) (w : Nat) : Nat → Int64 := vp_updL f (nI w / 64).toNatClampNeg (f (nI w / 64).toNatClampNeg ||| (1 <<< ((nI w - nI w / 64 * 64).toInt64 &&& 63)))
theorem one_shl {k : Nat} (hk : k < 64) : ((1 : Int64) <<< lN k).toBitVec = BitVec.ofNat 64 1 <<< k := by
  rw [Int64.toBitVec_shiftLeft]
  have h : ((lN k).toBitVec.smod 64).toNat = k := (by decide +kernel : ∀ k, k < 64 → ((lN k).toBitVec.smod 64).toNat = k) k hk
  show (1 : Int64).toBitVec <<< ((lN k).toBitVec.smod 64) = _
  rw [BitVec.shiftLeft_eq', h]
  rfl
theorem set_bit {f : Nat → Int64} {w v : Nat} (hw : w < 128) (hv : v < 128) : obit (setW f w) v = (obit f v || decide (v = w)) := by
  unfold obit setW
  rw [r64 hw, w64 hw, nI_clamp (by omega), wb_c _ (Nat.mod_lt _ (by omega))]
  by_cases h : v / 64 = w / 64
  · rw [h, pk_uLs, Int64.toBitVec_or, BitVec.getLsbD_or, one_shl (Nat.mod_lt _ (by omega)), BitVec.getLsbD_shiftLeft, BitVec.getLsbD_ofNat]
    congr 1
    have hv2 : v % 64 < 64 := Nat.mod_lt _ (by omega)
    by_cases e : v = w
    · subst e
      simp [hv2]
    · have e2 : ¬ v % 64 = w % 64 := by omega
      rw [decide_eq_false e]
      by_cases l : v % 64 < w % 64
      · simp [l]
      · have h1 : ¬ v % 64 - w % 64 = 0 := by omega
        have h2 : Nat.testBit 1 (v % 64 - w % 64) = false := tb0 (w := 1) (by omega) (by omega)
        simp [h2]
  · rw [pk_uLn h]
    have e : ¬ v = w := fun e => h (by rw [e])
    rw [decide_eq_false e, Bool.or_false]
theorem pk7_eq {x : Int32} {k : Nat} (hk : k < 7) : pk7 x = nI k ↔ x = nI k := by
  unfold pk7
  by_cases h : x = -6
  · rw [if_pos h, h]
    refine ⟨fun q => ?_, fun q => absurd q.symm (nI_ne6 (by omega))⟩
    have := (nI_eq (a := 7) (by omega) (by omega)).mp q
    omega
  · rw [if_neg h]
theorem pk7_7 {x : Int32} (h : x = -6 ∨ ∃ k, k < 7 ∧ x = nI k) : pk7 x = 7 ↔ x = -6 := by
  unfold pk7
  rcases h with h | ⟨k, hk, e⟩
  · rw [if_pos h]; exact ⟨fun _ => h, fun _ => rfl⟩
  · have h6 : ¬ x = -6 := by rw [e]; exact nI_ne6 (by omega)
    rw [if_neg h6]
    refine ⟨fun q => ?_, fun q => absurd q h6⟩
    rw [e] at q
    have := (nI_eq (b := 7) (by omega) (by omega)).mp q
    omega
/-- the law's wraps in the class's words -/
def LWc (nw : Nat) (hek hew clo clm sta wrv : Nat → Int32) : Prop := ∀ w, w < nw → AC (wrv w) (pk7 (hek w)) (hew w) (clo w) (clm w) (if bt (sta w) 3 = true then 1 else 0) (sta w &&& 7)
def RT (nk : Nat) (rt y2 : Int32) : Prop := (rt = -1 ∧ y2 = -6) ∨ ∃ r, r < nk ∧ rt = nI r ∧ y2 = nI r
section LOPEN
variable {nk nb nw : Nat} {st qv kev bov wrv : Nat → Int32} {lk lb : Int32} {par mak wea kob hek hew clo clm sta : Nat → Int32} {rt y2 y3 : Int32}
theorem hadL (h : LSt st nk nb nw qv kev bov wrv) (hK : RK3 st nk lk par mak) (hP : PT nk par) (hC : LWc nw hek hew clo clm sta wrv) (hr : RT nk rt y2) (opv : Nat → Int64) {k : Nat} (hk2 : k < nk) (m : Int32) :
    (Had (SR nk lk par mak y2 y3) nw (ob1 opv) hek hew (nI k) m ∧ fL_had qv kev wrv opv (nI k) m rt y3 = some 1) ∨ (¬ Had (SR nk lk par mak y2 y3) nw (ob1 opv) hek hew (nI k) m ∧ fL_had qv kev wrv opv (nI k) m rt y3 = some 0) := by
  obtain ⟨⟨⟨a0, a1, a2, a3⟩, ⟨b1, b2, b3⟩, n1, n2, n3⟩, hLK, hZ, hLB, hW⟩ := h
  have key : ∀ fuel i, i ≤ nw → nw < i + fuel → ((∃ w, w < nw ∧ i ≤ w ∧ ob1 opv w = 1 ∧ hek w = nI k ∧ hew w = m) ∧ fL_had_b55 fuel qv kev wrv opv (nI k) m (nI i) = some 1) ∨ ((¬ ∃ w, w < nw ∧ i ≤ w ∧ ob1 opv w = 1 ∧ hek w = nI k ∧ hew w = m) ∧ fL_had_b55 fuel qv kev wrv opv (nI k) m (nI i) = some 0) := by
    intro fuel
    induction fuel with
    | zero => intro i h1 h2; omega
    | succ fuel ih =>
      intro i h1 h2
      rw [fL_had_b55, if_neg q3i, cl3, a3]
      by_cases hi : i < nw
      · obtain ⟨r0, r1, -⟩ := hC i hi
        have skip : ¬ (ob1 opv i = 1 ∧ hek i = nI k ∧ hew i = m) → ((∃ w, w < nw ∧ i ≤ w ∧ ob1 opv w = 1 ∧ hek w = nI k ∧ hew w = m) ∧ fL_had_b55 fuel qv kev wrv opv (nI k) m (nI (i + 1)) = some 1) ∨ ((¬ ∃ w, w < nw ∧ i ≤ w ∧ ob1 opv w = 1 ∧ hek w = nI k ∧ hew w = m) ∧ fL_had_b55 fuel qv kev wrv opv (nI k) m (nI (i + 1)) = some 0) := fun hn => by
          rcases ih (i + 1) hi (by omega) with ⟨⟨w, q1, q2, q3⟩, q4⟩ | ⟨q1, q2⟩
          · exact Or.inl ⟨⟨w, q1, by omega, q3⟩, q4⟩
          · refine Or.inr ⟨fun ⟨w, r1, r2, r3⟩ => ?_, q2⟩
            by_cases hwi : w = i
            · subst hwi; exact hn r3
            · exact q1 ⟨w, r1, by omega, r3⟩
        have tb := test_bit (f := opv) (w := i) (by omega)
        rw [if_neg (nI_ge hi (by omega)), if_neg (ix64 (by omega)), ifc tb, nI_1]
        have hin : ¬ (nI i < 0 ∨ 64 ≤ (nI i).toNatClampNeg) := nI_in (by omega) (by omega)
        by_cases ho : obit opv i = true
        · rw [if_pos ho, if_neg hin, if_neg hin, nI_clamp (by omega), r0, r1, ifc (pk7_eq (by omega))]
          by_cases ha : hek i = nI k
          · rw [if_pos ha]
            by_cases hm : hew i = m
            · rw [if_pos hm]
              exact Or.inl ⟨⟨i, hi, Nat.le_refl _, ob1_1.mpr ho, ha, hm⟩, rfl⟩
            · rw [if_neg hm]
              exact skip (fun q => hm q.2.2)
          · rw [if_neg ha]
            exact skip (fun q => ha q.2.1)
        · rw [if_neg ho]
          exact skip (fun q => ho (ob1_1.mp q.1))
      · have hin : i = nw := by omega
        subst hin
        rw [if_pos (nI_le (Nat.le_refl _) (by omega))]
        exact Or.inr ⟨fun ⟨w, r1, r2, r3⟩ => by omega, rfl⟩
  have key0' : ((∃ w, w < nw ∧ 0 ≤ w ∧ ob1 opv w = 1 ∧ hek w = nI k ∧ hew w = m) ∧ fL_had_b55 6000 qv kev wrv opv (nI k) m 0 = some 1) ∨ ((¬ ∃ w, w < nw ∧ 0 ≤ w ∧ ob1 opv w = 1 ∧ hek w = nI k ∧ hew w = m) ∧ fL_had_b55 6000 qv kev wrv opv (nI k) m 0 = some 0) := key 6000 0 (Nat.zero_le _) (by omega)
  have fin : ¬ SR nk lk par mak y2 y3 (nI k) m → (Had (SR nk lk par mak y2 y3) nw (ob1 opv) hek hew (nI k) m ∧ fL_had_b55 6000 qv kev wrv opv (nI k) m 0 = some 1) ∨ (¬ Had (SR nk lk par mak y2 y3) nw (ob1 opv) hek hew (nI k) m ∧ fL_had_b55 6000 qv kev wrv opv (nI k) m 0 = some 0) := fun hn => by
    rcases key0' with ⟨⟨w, q1, q2, q3⟩, q4⟩ | ⟨q1, q2⟩
    · exact Or.inl ⟨Or.inr ⟨w, q1, q3⟩, q4⟩
    · exact Or.inr ⟨fun q => q.elim hn (fun ⟨w, r1, r2⟩ => q1 ⟨w, r1, Nat.zero_le _, r2⟩), q2⟩
  obtain ⟨r0, r1, r2⟩ := hK k hk2
  obtain ⟨l0, l1, l2, -⟩ := hLK k hk2
  unfold fL_had
  rcases hr with ⟨e1, h6⟩ | ⟨r, hr, e1, e2⟩
  · rw [e1, if_neg (show ¬ (0 : Int32) ≤ -1 by decide), i4, i4p1, i4p2, if_neg (nI_in (by omega) (by omega)), if_neg (nI_in (by omega) (by omega)), if_neg (nI_in (by omega) (by omega)), nI_clamp (by omega), nI_clamp (by omega), nI_clamp (by omega), l0, l1, l2, r0, r1, r2]
    have hne : (¬ (bt lk k = true ∧ par k = -6 ∧ mak k = m)) → ¬ SR nk lk par mak y2 y3 (nI k) m := fun hq hs => by
      rcases hs with ⟨-, j, j1, j2, j3⟩ | ⟨q, -⟩
      · have := (nI_eq (by omega) (by omega)).mp j2
        subst this
        exact hq j3
      · exact q h6
    by_cases hp : par k = -6
    · rw [hp, pm_6, if_neg (show ¬ (0 : Int32) ≤ -1 by decide)]
      by_cases hl : bt lk k = true
      · rw [if_pos (bit1_eq.mpr hl)]
        by_cases hm : mak k = m
        · rw [if_pos hm]
          exact Or.inl ⟨Or.inl (Or.inl ⟨h6, k, hk2, rfl, hl, hp, hm⟩), rfl⟩
        · rw [if_neg hm]
          exact fin (hne (fun q => hm q.2.2))
      · rw [if_neg (fun q => hl (bit1_eq.mp q))]
        exact fin (hne (fun q => hl q.1))
    · have hge : pm (par k) = par k := if_neg hp
      have hn : ¬ SR nk lk par mak y2 y3 (nI k) m := hne (fun q => hp q.2.1)
      obtain ⟨j, hj, ej⟩ := (hP k hk2).resolve_left hp
      rw [hge, if_pos (show (0 : Int32) ≤ par k by rw [ej]; exact nI_pos' (by omega))]
      exact fin hn
  · have h6 : ¬ y2 = -6 := by rw [e2]; exact nI_ne6 (by omega)
    rw [e1, if_pos (nI_pos' (by omega))]
    by_cases ha : nI k = nI r
    · rw [if_pos ha]
      by_cases hm : m = y3
      · rw [if_pos hm]
        exact Or.inl ⟨Or.inl (Or.inr ⟨h6, ha.trans e2.symm, hm⟩), rfl⟩
      · rw [if_neg hm]
        exact fin (fun hs => hs.elim (fun q => h6 q.1) (fun q => hm q.2.2))
    · rw [if_neg ha]
      exact fin (fun hs => hs.elim (fun q => h6 q.1) (fun q => ha (q.2.1.trans e2)))
theorem openL_pass (h : LSt st nk nb nw qv kev bov wrv) (hK : RK3 st nk lk par mak) (hP : PT nk par) (hC : LWc nw hek hew clo clm sta wrv) (hr : RT nk rt y2) (hW : WI nk nb nw par mak kob hek hew clo clm sta) {p : Nat} (hp : p < 8)
    (k13 : (Nat → Int32) → (Nat → Int32) → (Nat → Int32) → (Nat → Int64) → Int32 → Int32 → Int32 → Int32 → Option (Nat → Int64)) : ∀ fuel i opv y4, i ≤ nw → nw < i + fuel → (y4 = 0 ∨ y4 = 1) →
    ∃ opv' y4', fL_open_b24 k13 fuel qv kev wrv opv (nI p) rt y3 y4 (nI i) = k13 qv kev wrv opv' (nI p) rt y3 y4' ∧ (∀ w, w < nw → ob1 opv w = 1 → ob1 opv' w = 1) ∧ (∀ w, w < nw → ob1 opv' w = 1 → ob1 opv w = 1 ∨ (CR sta (nI p) y2 w ∧ Had (SR nk lk par mak y2 y3) nw (ob1 opv') hek hew (clo w) (clm w))) ∧
      ((y4' = 0 ∧ y4 = 0 ∧ (∀ w, w < nw → ob1 opv' w = ob1 opv w) ∧ ∀ w, i ≤ w → w < nw → CR sta (nI p) y2 w → ob1 opv w = 0 → ¬ Had (SR nk lk par mak y2 y3) nw (ob1 opv) hek hew (clo w) (clm w)) ∨ (y4' = 1 ∧ (y4 = 1 ∨ ∃ w, w < nw ∧ ob1 opv w = 0 ∧ ob1 opv' w = 1))) := by
  obtain ⟨⟨⟨a0, a1, a2, a3⟩, ⟨b1, b2, b3⟩, n1, n2, n3⟩, hLK, hZ, hLB, hLW⟩ := id h
  intro fuel
  induction fuel with
  | zero => intro i opv y4 h1 h2; omega
  | succ fuel ih =>
    intro i opv y4 h1 h2 hy4
    rw [fL_open_b24, if_neg q3i, cl3, a3]
    by_cases hi : i < nw
    · have hAC := hC i hi
      obtain ⟨-, ⟨c, m, m', c1, c2, c3, -⟩, -⟩ := hW i hi
      have hin : ¬ (nI i < 0 ∨ 64 ≤ (nI i).toNatClampNeg) := nI_in (by omega) (by omega)
      rw [if_neg (nI_ge hi (by omega)), if_neg hin, nI_clamp (by omega), AC_hand hAC hp]
      have skip : (CR sta (nI p) y2 i → ob1 opv i = 0 → ¬ Had (SR nk lk par mak y2 y3) nw (ob1 opv) hek hew (clo i) (clm i)) → ∃ opv' y4', fL_open_b24 k13 fuel qv kev wrv opv (nI p) rt y3 y4 (nI i + 1) = k13 qv kev wrv opv' (nI p) rt y3 y4' ∧ (∀ w, w < nw → ob1 opv w = 1 → ob1 opv' w = 1) ∧ (∀ w, w < nw → ob1 opv' w = 1 → ob1 opv w = 1 ∨ (CR sta (nI p) y2 w ∧ Had (SR nk lk par mak y2 y3) nw (ob1 opv') hek hew (clo w) (clm w))) ∧
          ((y4' = 0 ∧ y4 = 0 ∧ (∀ w, w < nw → ob1 opv' w = ob1 opv w) ∧ ∀ w, i ≤ w → w < nw → CR sta (nI p) y2 w → ob1 opv w = 0 → ¬ Had (SR nk lk par mak y2 y3) nw (ob1 opv) hek hew (clo w) (clm w)) ∨ (y4' = 1 ∧ (y4 = 1 ∨ ∃ w, w < nw ∧ ob1 opv w = 0 ∧ ob1 opv' w = 1))) := fun hn => by
        rw [nI_1]
        obtain ⟨op', y4', q1, q3, q4, q5⟩ := ih (i + 1) opv y4 hi (by omega) hy4
        refine ⟨op', y4', q1, q3, q4, ?_⟩
        rcases q5 with ⟨z1, z2, z3, z4⟩ | z
        · refine Or.inl ⟨z1, z2, z3, fun w hw1 hw2 => ?_⟩
          by_cases hwi : w = i
          · subst hwi; exact hn
          · exact z4 w (by omega) hw2
        · exact Or.inr z
      have tb := test_bit (f := opv) (w := i) (by omega)
      have cand : CR sta (nI p) y2 i → ∃ opv' y4', fL_open_b69 k13 (fL_open_b24 k13 fuel) qv kev wrv opv (nI p) rt y3 y4 (nI i) (wrv i) 1 = k13 qv kev wrv opv' (nI p) rt y3 y4' ∧ (∀ w, w < nw → ob1 opv w = 1 → ob1 opv' w = 1) ∧ (∀ w, w < nw → ob1 opv' w = 1 → ob1 opv w = 1 ∨ (CR sta (nI p) y2 w ∧ Had (SR nk lk par mak y2 y3) nw (ob1 opv') hek hew (clo w) (clm w))) ∧
          ((y4' = 0 ∧ y4 = 0 ∧ (∀ w, w < nw → ob1 opv' w = ob1 opv w) ∧ ∀ w, i ≤ w → w < nw → CR sta (nI p) y2 w → ob1 opv w = 0 → ¬ Had (SR nk lk par mak y2 y3) nw (ob1 opv) hek hew (clo w) (clm w)) ∨ (y4' = 1 ∧ (y4 = 1 ∨ ∃ w, w < nw ∧ ob1 opv w = 0 ∧ ob1 opv' w = 1))) := fun hc => by
        unfold fL_open_b69
        rw [if_neg (show ¬ ((1 : Int32) = 0) by decide), if_neg (ix64 (by omega)), ifc tb]
        by_cases ho : obit opv i = true
        · rw [if_pos ho]
          exact skip (fun _ q => absurd ho (ob1_0.mp q))
        · rw [if_neg ho, hAC.2.2.1, hAC.2.2.2.1, c2]
          rcases hadL (y3 := y3) h hK hP hC hr opv c1 (clm i) with ⟨g1, g2⟩ | ⟨g1, g2⟩
          · rw [g2, Option.bind_some, if_neg (show ¬ ((1 : Int32) = 0) by decide), if_neg (ix64 (by omega)), if_neg (ix64 (by omega)), nI_1]
            have sb : ∀ w, w < nw → (ob1 (setW opv i) w = 1 ↔ (ob1 opv w = 1 ∨ w = i)) := fun w hw1 => by
              rw [ob1_1, ob1_1, set_bit (by omega) (by omega)]
              simp
            obtain ⟨op', y4', q1, q3, q4, q5⟩ := ih (i + 1) (setW opv i) 1 hi (by omega) (Or.inr rfl)
            have hi1 : ob1 op' i = 1 := q3 i hi ((sb i hi).mpr (Or.inr rfl))
            refine ⟨op', y4', q1, fun w hw1 hw2 => q3 w hw1 ((sb w hw1).mpr (Or.inl hw2)), fun w hw1 hw2 => ?_, ?_⟩
            · rcases q4 w hw1 hw2 with z | z
              · rcases (sb w hw1).mp z with z | z
                · exact Or.inl z
                · subst z
                  refine Or.inr ⟨hc, ?_⟩
                  rw [c2]
                  exact g1.mono (fun w hw1 hw2 => q3 w hw1 ((sb w hw1).mpr (Or.inl hw2)))
              · exact Or.inr z
            · rcases q5 with ⟨z1, z2, z3, z4⟩ | ⟨z1, z2⟩
              · exact absurd z2 (by decide)
              · exact Or.inr ⟨z1, Or.inr ⟨i, hi, ob1_0.mpr ho, hi1⟩⟩
          · rw [g2, Option.bind_some, if_pos rfl]
            exact skip (fun _ _ => by rw [c2]; exact g1)
      have nocand : ¬ CR sta (nI p) y2 i → ∃ opv' y4', fL_open_b69 k13 (fL_open_b24 k13 fuel) qv kev wrv opv (nI p) rt y3 y4 (nI i) (wrv i) 0 = k13 qv kev wrv opv' (nI p) rt y3 y4' ∧ (∀ w, w < nw → ob1 opv w = 1 → ob1 opv' w = 1) ∧ (∀ w, w < nw → ob1 opv' w = 1 → ob1 opv w = 1 ∨ (CR sta (nI p) y2 w ∧ Had (SR nk lk par mak y2 y3) nw (ob1 opv') hek hew (clo w) (clm w))) ∧
          ((y4' = 0 ∧ y4 = 0 ∧ (∀ w, w < nw → ob1 opv' w = ob1 opv w) ∧ ∀ w, i ≤ w → w < nw → CR sta (nI p) y2 w → ob1 opv w = 0 → ¬ Had (SR nk lk par mak y2 y3) nw (ob1 opv) hek hew (clo w) (clm w)) ∨ (y4' = 1 ∧ (y4 = 1 ∨ ∃ w, w < nw ∧ ob1 opv w = 0 ∧ ob1 opv' w = 1))) := fun hc => by
        unfold fL_open_b69
        rw [if_pos rfl]
        exact skip (fun q _ => absurd q hc)
      by_cases hq : (sta i &&& 7) &&& nI p = 0
      · rw [if_pos hq]
        rcases hr with ⟨e1, h6⟩ | ⟨r, hr', e1, e2⟩
        · rw [e1, if_neg (show ¬ (0 : Int32) ≤ -1 by decide)]
          rw [e1] at cand nocand
          have hho : (wrv i >>> ((18 : Int32) &&& 31)) &&& 1 = if bt (sta i) 3 = true then 1 else 0 := hAC.2.2.2.2.1
          rw [hho]
          by_cases hs : bt (sta i) 3 = true
          · rw [if_pos (bit1_eq.mpr hs)]
            exact cand (Or.inr ⟨h6, hs⟩)
          · rw [if_neg (fun q => hs (bit1_eq.mp q))]
            exact nocand (fun q => q.elim (fun r => r hq) (fun r => hs r.2))
        · have h6 : ¬ y2 = -6 := by rw [e2]; exact nI_ne6 (by omega)
          rw [e1, if_pos (nI_pos' (by omega))]
          rw [e1] at nocand
          exact nocand (fun q => q.elim (fun r => r hq) (fun r => h6 r.1))
      · rw [if_neg hq]
        exact cand (Or.inl hq)
    · have hin : i = nw := by omega
      subst hin
      rw [if_pos (nI_le (Nat.le_refl _) (by omega))]
      refine ⟨opv, y4, rfl, fun w _ q => q, fun w _ q => Or.inl q, ?_⟩
      rcases hy4 with q | q
      · exact Or.inl ⟨q, q, fun w _ => rfl, fun w h1 h2 => by omega⟩
      · exact Or.inr ⟨q, Or.inl q⟩
theorem openL_loop (h : LSt st nk nb nw qv kev bov wrv) (hK : RK3 st nk lk par mak) (hP : PT nk par) (hC : LWc nw hek hew clo clm sta wrv) (hr : RT nk rt y2) (hW : WI nk nb nw par mak kob hek hew clo clm sta) {p : Nat} (hp : p < 8) : ∀ fuel opv y4, (y4 = 0 ∨ y4 = 1) →
    (∀ w, w < nw → ob1 opv w = 1 → CR sta (nI p) y2 w ∧ Had (SR nk lk par mak y2 y3) nw (ob1 opv) hek hew (clo w) (clm w)) → (y4 = 0 → ∀ w, w < nw → CR sta (nI p) y2 w → ob1 opv w = 0 → ¬ Had (SR nk lk par mak y2 y3) nw (ob1 opv) hek hew (clo w) (clm w)) →
    fb_ct (fun w => decide (ob1 opv w = 0)) nw + (if y4 = 0 then 0 else 1) < fuel →
    ∃ oF, fL_open_b13 fuel qv kev wrv opv (nI p) rt y3 y4 = some oF ∧ Fix (SR nk lk par mak y2 y3) (CR sta (nI p) y2) nw hek hew clo clm (ob1 oF) := by
  have n3 := h.1.2.2.2.2
  intro fuel
  induction fuel with
  | zero => intro op y4 _ _ _ h; omega
  | succ fuel ih =>
    intro op y4 hy4 hsound hclosed hfuel
    rw [fL_open_b13]
    rcases hy4 with rfl | rfl
    · rw [if_pos rfl]
      refine ⟨op, rfl, fun w hw1 => ⟨hsound w hw1, fun ⟨q1, q2⟩ => ?_⟩⟩
      rcases ob_bin nw op w hw1 with q | q
      · exact absurd q2 (hclosed rfl w hw1 q1 q)
      · exact q
    · rw [if_neg (show ¬ ((1 : Int32) = 0) by decide)] at hfuel ⊢
      obtain ⟨op', y4', q1, q3, q4, q5⟩ := openL_pass (y3 := y3) h hK hP hC hr hW hp (fL_open_b13 fuel) 6000 0 op 0 (Nat.zero_le _) (by omega) (Or.inl rfl)
      have q1' : fL_open_b24 (fL_open_b13 fuel) 6000 qv kev wrv op (nI p) rt y3 0 0 = fL_open_b13 fuel qv kev wrv op' (nI p) rt y3 y4' := q1
      rw [q1']
      have hsound' : ∀ w, w < nw → ob1 op' w = 1 → CR sta (nI p) y2 w ∧ Had (SR nk lk par mak y2 y3) nw (ob1 op') hek hew (clo w) (clm w) := fun w hw1 hw2 => by
        rcases q4 w hw1 hw2 with z | z
        · obtain ⟨a1, a2⟩ := hsound w hw1 z
          exact ⟨a1, a2.mono q3⟩
        · exact z
      rcases q5 with ⟨z1, -, z3, z4⟩ | ⟨z1, z2⟩
      · subst z1
        have hct : fb_ct (fun w => decide (ob1 op' w = 0)) nw = fb_ct (fun w => decide (ob1 op w = 0)) nw := fb_ct_cong (fun w hw1 => by rw [z3 w hw1])
        refine ih op' 0 (Or.inl rfl) hsound' (fun _ w hw1 hc h0 hh => ?_) (by rw [hct, if_pos rfl]; omega)
        rw [z3 w hw1] at h0
        exact z4 w (Nat.zero_le _) hw1 hc h0 (hh.mono (fun w hw1 hw2 => by rw [← z3 w hw1]; exact hw2))
      · subst z1
        obtain ⟨w0, a1, a2, a3⟩ := z2.resolve_left (by decide)
        have hlt : fb_ct (fun w => decide (ob1 op' w = 0)) nw + 1 ≤ fb_ct (fun w => decide (ob1 op w = 0)) nw := by
          have hu := fb_ct_upd (fun w => decide (ob1 op w = 0)) false (i := w0) (n := nw) a1
          have hs : fb_ct (fun w => decide (ob1 op' w = 0)) nw ≤ fb_ct (fun k => if k = w0 then false else (fun w => decide (ob1 op w = 0)) k) nw := fb_ct_sub (fun w hw1 hw2 => by
            have h0 : ob1 op' w = 0 := of_decide_eq_true hw2
            by_cases hww : w = w0
            · subst hww
              rw [a3] at h0
              exact absurd h0 (by decide)
            · rw [if_neg hww]
              rcases ob_bin nw op w hw1 with q | q
              · exact decide_eq_true q
              · rw [q3 w hw1 q] at h0
                exact absurd h0 (by decide))
          have e1 : (if (fun w => decide (ob1 op w = 0)) w0 = true then 1 else 0) = 1 := if_pos (decide_eq_true a2)
          have hu' : fb_ct (fun k => if k = w0 then false else (fun w => decide (ob1 op w = 0)) k) nw + 1 = fb_ct (fun w => decide (ob1 op w = 0)) nw + 0 := by
            have := hu
            rw [e1] at this
            exact this
          omega
        exact ih op' 1 (Or.inr rfl) hsound' (fun q => absurd q (by decide)) (by rw [if_neg (show ¬ ((1 : Int32) = 0) by decide)]; omega)
theorem openL_eq (h : LSt st nk nb nw qv kev bov wrv) (hK : RK3 st nk lk par mak) (hP : PT nk par) (hC : LWc nw hek hew clo clm sta wrv) (hr : RT nk rt y2) (hW : WI nk nb nw par mak kob hek hew clo clm sta) {p : Nat} (hp : p < 8) (opv : Nat → Int64) (y3 : Int32) :
    ∃ oF, fL_open qv kev wrv opv (nI p) rt y3 = some oF ∧ Fix (SR nk lk par mak y2 y3) (CR sta (nI p) y2) nw hek hew clo clm (ob1 oF) := by
  have n3 := h.1.2.2.2.2
  have z : ∀ w, w < nw → ¬ ob1 (vp_updL (vp_updL opv (0 : Int32).toNatClampNeg 0) (1 : Int32).toNatClampNeg 0) w = 1 := fun w hw => by
    rw [ob1_1]
    unfold obit
    have h0 : (0 : Int64).toBitVec.getLsbD (w % 64) = false := BitVec.getLsbD_zero
    rcases (show w / 64 = 0 ∨ w / 64 = 1 by omega) with e | e
    · rw [e, cl0, cl1, pk_uLn (by omega), pk_uLs, h0]; decide
    · rw [e, cl0, cl1, pk_uLs, h0]; decide
  obtain ⟨oF, e1, e2⟩ := openL_loop (y3 := y3) h hK hP hC hr hW hp 6000 (vp_updL (vp_updL opv (0 : Int32).toNatClampNeg 0) (1 : Int32).toNatClampNeg 0) 1 (Or.inr rfl) (fun w hw1 hw2 => absurd hw2 (z w hw1)) (fun q => absurd q (by decide)) (by
    have := fb_ct_le (fun w => decide (ob1 (vp_updL (vp_updL opv (0 : Int32).toNatClampNeg 0) (1 : Int32).toNatClampNeg 0) w = 0)) nw
    rw [if_neg (show ¬ ((1 : Int32) = 0) by decide)]
    omega)
  refine ⟨oF, ?_, e2⟩
  unfold fL_open
  rw [if_neg (show ¬ ((0 : Int32) < 0 ∨ 2 ≤ (0 : Int32).toNatClampNeg) by decide), if_neg (show ¬ ((1 : Int32) < 0 ∨ 2 ≤ (1 : Int32).toNatClampNeg) by decide)]
  exact e1
/-- the boxes that were opened -/
theorem boxesL_eq (h : LSt st nk nb nw qv kev bov wrv) (hC : LWc nw hek hew clo clm sta wrv) (hW : WI nk nb nw par mak kob hek hew clo clm sta) (opv : Nat → Int64) : ∃ m, fL_boxes qv wrv opv = some m ∧ ∀ j, j < 32 → (bt m j = true ↔ ∃ w, w < nw ∧ ob1 opv w = 1 ∧ hek w = -6 ∧ hew w = nI j) := by
  obtain ⟨⟨⟨a0, a1, a2, a3⟩, ⟨b1, b2, b3⟩, n1, n2, n3⟩, -⟩ := h
  have key : ∀ fuel i acc, i ≤ nw → nw < i + fuel → ∃ m, fL_boxes_b5 fuel qv wrv opv acc (nI i) = some m ∧ ∀ j, j < 32 → (bt m j = true ↔ (bt acc j = true ∨ ∃ w, i ≤ w ∧ w < nw ∧ ob1 opv w = 1 ∧ hek w = -6 ∧ hew w = nI j)) := by
    intro fuel
    induction fuel with
    | zero => intro i acc h1 h2; omega
    | succ fuel ih =>
      intro i acc h1 h2
      rw [fL_boxes_b5, if_neg q3i, cl3, a3]
      by_cases hi : i < nw
      · obtain ⟨r0, r1, -⟩ := hC i hi
        have hin : ¬ (nI i < 0 ∨ 64 ≤ (nI i).toNatClampNeg) := nI_in (by omega) (by omega)
        have tb := test_bit (f := opv) (w := i) (by omega)
        have no : ¬ (ob1 opv i = 1 ∧ hek i = -6) → ∃ m, fL_boxes_b5 fuel qv wrv opv acc (nI (i + 1)) = some m ∧ ∀ j, j < 32 → (bt m j = true ↔ (bt acc j = true ∨ ∃ w, i ≤ w ∧ w < nw ∧ ob1 opv w = 1 ∧ hek w = -6 ∧ hew w = nI j)) := fun hn => by
          obtain ⟨m, e1, e2⟩ := ih (i + 1) acc hi (by omega)
          refine ⟨m, e1, fun j hj => (e2 j hj).trans ⟨fun q => q.imp id (fun ⟨w, w1, w2⟩ => ⟨w, by omega, w2⟩), fun q => q.imp id (fun ⟨w, w1, w2, w3, w4, w5⟩ => ?_)⟩⟩
          by_cases hwi : w = i
          · subst hwi; exact absurd ⟨w3, w4⟩ hn
          · exact ⟨w, by omega, w2, w3, w4, w5⟩
        rw [if_neg (nI_ge hi (by omega)), if_neg (ix64 (by omega)), ifc tb, nI_1]
        by_cases ho : obit opv i = true
        · rw [if_pos ho, if_neg hin, if_neg hin, nI_clamp (by omega), r0, r1]
          rcases (hW i hi).1 with ⟨p1, b, p2, p3, -⟩ | ⟨k, jj, p1, p2, p3, -⟩
          · rw [p1, pk7_6, if_pos rfl, p3]
            obtain ⟨m, e1, e2⟩ := ih (i + 1) (acc ||| ((1 : Int32) <<< (nI b &&& 31))) hi (by omega)
            refine ⟨m, e1, fun j hj => (e2 j hj).trans ?_⟩
            rw [b_or, bit_at (by omega) hj, Bool.or_eq_true, decide_eq_true_iff]
            constructor
            · rintro ((q | q) | ⟨w, w1, w2⟩)
              · exact Or.inl q
              · subst q; exact Or.inr ⟨i, Nat.le_refl _, hi, ob1_1.mpr ho, p1, p3⟩
              · exact Or.inr ⟨w, by omega, w2⟩
            · rintro (q | ⟨w, w1, w2, w3, w4, w5⟩)
              · exact Or.inl (Or.inl q)
              · by_cases hwi : w = i
                · subst hwi
                  exact Or.inl (Or.inr ((nI_eq (by omega) (by omega)).mp (w5.symm.trans p3)))
                · exact Or.inr ⟨w, by omega, w2, w3, w4, w5⟩
          · have h6 : ¬ hek i = -6 := by rw [p3]; exact nI_ne6 (by omega)
            rw [if_neg (fun q => h6 ((pk7_7 (Or.inr ⟨k, by omega, p3⟩)).mp q))]
            exact no (fun q => h6 q.2)
        · rw [if_neg ho]
          exact no (fun q => ho (ob1_1.mp q.1))
      · have hin : i = nw := by omega
        subst hin
        rw [if_pos (nI_le (Nat.le_refl _) (by omega))]
        exact ⟨acc, rfl, fun j _ => ⟨Or.inl, fun q => q.elim id (fun ⟨w, w1, w2, _⟩ => by omega)⟩⟩
  obtain ⟨m, e1, e2⟩ := key 6000 0 0 (Nat.zero_le _) (by omega)
  refine ⟨m, e1, fun j hj => (e2 j hj).trans ⟨fun q => q.elim (fun z => by rw [b_0] at z; cases z) (fun ⟨w, _, w2⟩ => ⟨w, w2⟩), fun ⟨w, w2⟩ => Or.inr ⟨w, Nat.zero_le _, w2⟩⟩⟩
end LOPEN

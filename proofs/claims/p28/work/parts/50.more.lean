/-! counts, the most worn, the way -/
section MORE
variable {B nk nb nw : Nat} {st : Nat → Int32} {mw ke bo lk lb nu : Int32} {par mak wea kob hek hew clo clm sta : Nat → Int32}
theorem nI_b (acc : Nat) (b : Bool) : nI acc + (if b = true then 1 else 0) = nI (acc + if b = true then 1 else 0) := by
  cases b
  · exact nI_add acc 0
  · exact nI_add acc 1
theorem ct_low {n m : Nat} {x : Int32} (hn : n ≤ m) (h : ∀ i, n ≤ i → bt x i = false) : fb_ct (bt x) m = fb_ct (bt x) n := ct_tail hn (fun j hj _ => h j hj)
theorem liveKeys_eq (hk : nk ≤ 20) (h1 : st 1 = nI nk) (hK : RK st nk lk par mak wea) (hz : ∀ i, nk ≤ i → bt lk i = false) : fX8_liveKeys st = some (fJ6_bitCount_0f7a4 lk) := by
  unfold fX8_liveKeys
  rw [count_eq, ct_low (show nk ≤ 32 by omega) hz, ← ct_sm]
  exact sum_loop0 (n := nk) (fun fuel acc i => fX8_liveKeys_b4 fuel st acc (nI i)) (fun acc => some acc) (fun i => if bt lk i = true then 1 else 0)
    (fun fuel acc => by
      show fX8_liveKeys_b4 _ _ _ _ = _
      rw [fX8_liveKeys_b4, if_neg ix1, cl1, h1, if_pos (nI_le (Nat.le_refl _) (by omega))])
    (fun fuel acc i hi => by
      show fX8_liveKeys_b4 _ _ _ _ = fX8_liveKeys_b4 _ _ _ _
      rw [fX8_liveKeys_b4, if_neg ix1, cl1, h1, if_neg (nI_ge hi (by omega)), key1 (by omega), Option.bind_some, (hK i hi).2.1, nI_b, nI_1]) (fuel := 6000) (by omega)
theorem liveBoxes_eq (hb : nb ≤ 20) (h2 : st 2 = nI nb) (hB : RB st nb lb kob) (hz : ∀ i, nb ≤ i → bt lb i = false) : fX8_liveBoxes st = some (fJ6_bitCount_0f7a4 lb) := by
  unfold fX8_liveBoxes
  rw [count_eq, ct_low (show nb ≤ 32 by omega) hz, ← ct_sm]
  exact sum_loop0 (n := nb) (fun fuel acc i => fX8_liveBoxes_b4 fuel st acc (nI i)) (fun acc => some acc) (fun i => if bt lb i = true then 1 else 0)
    (fun fuel acc => by
      show fX8_liveBoxes_b4 _ _ _ _ = _
      rw [fX8_liveBoxes_b4, if_neg ix2, cl2, h2, if_pos (nI_le (Nat.le_refl _) (by omega))])
    (fun fuel acc i hi => by
      show fX8_liveBoxes_b4 _ _ _ _ = fX8_liveBoxes_b4 _ _ _ _
      rw [fX8_liveBoxes_b4, if_neg ix2, cl2, h2, if_neg (nI_ge hi (by omega)), box1 (by omega), Option.bind_some, (hB i hi).2, nI_b, nI_1]) (fuel := 6000) (by omega)
theorem inHouse_eq (hw : nw ≤ 120) (h3 : st 3 = nI nw) (hR : RW st nw hek hew clo clm sta) : ∃ v, fX6_standingIn (nI nw) sta 8 = some v ∧ fX8_inHouse st = some v := by
  refine ⟨nI (fb_sm (fun i => if bt (sta i) 3 = true then 1 else 0) nw), standingIn_eq hw (fun i hi => by rw [← set_3]; exact count_set (by omega) _), ?_⟩
  unfold fX8_inHouse
  exact sum_loop0 (n := nw) (fun fuel acc i => fX8_inHouse_b4 fuel st acc (nI i)) (fun acc => some acc) (fun i => if bt (sta i) 3 = true then 1 else 0)
    (fun fuel acc => by
      show fX8_inHouse_b4 _ _ _ _ = _
      rw [fX8_inHouse_b4, if_neg ix3, cl3, h3, if_pos (nI_le (Nat.le_refl _) (by omega))])
    (fun fuel acc i hi => by
      show fX8_inHouse_b4 _ _ _ _ = fX8_inHouse_b4 _ _ _ _
      rw [fX8_inHouse_b4, if_neg ix3, cl3, h3, if_neg (nI_ge hi (by omega)), wr4 (by omega), Option.bind_some, (hR i hi).2.2.2.2.1, nI_b, nI_1]) (fuel := 6000) (by omega)
theorem outside_eq (hw : nw ≤ 120) (h3 : st 3 = nI nw) (hR : RW st nw hek hew clo clm sta) : ∃ v, fX6_standingIn (nI nw) sta 7 = some v ∧ fX8_outside st = some v := by
  have h7 : ∀ x : Int32, ∀ i, 20 ≤ i → bt (x &&& 7) i = false := fun x i hi => by rw [b_and, b_7, decide_eq_false (by omega), Bool.and_false]
  refine ⟨nI (fb_sm (fun i => fb_ct (bt (sta i &&& 7)) 20) nw), standingIn_eq hw (fun i hi => count_20 (h7 _)), ?_⟩
  unfold fX8_outside
  exact sum_loop0 (n := nw) (fun fuel acc i => fX8_outside_b4 fuel st acc (nI i)) (fun acc => some acc) (fun i => fb_ct (bt (sta i &&& 7)) 20)
    (fun fuel acc => by
      show fX8_outside_b4 _ _ _ _ = _
      rw [fX8_outside_b4, if_neg ix3, cl3, h3, if_pos (nI_le (Nat.le_refl _) (by omega))])
    (fun fuel acc i hi => by
      show fX8_outside_b4 _ _ _ _ = fX8_outside_b4 _ _ _ _
      rw [fX8_outside_b4, if_neg ix3, cl3, h3, if_neg (nI_ge hi (by omega)), wr5 (by omega), Option.bind_some, (hR i hi).2.2.2.2.2, bits_eq, Option.bind_some, nI_add, nI_1]) (fuel := 6000) (by omega)
theorem left_z {m x : Nat} (hm : m ≤ 30) : nI (m - x) = 0 ↔ m ≤ x := by
  constructor
  · intro q
    have := (nI_eq (b := 0) (by omega) (by omega)).mp q
    omega
  · intro q
    have : m - x = 0 := by omega
    rw [this]; rfl
theorem worn_eq (h : Rel B nk nb nw st mw ke bo lk lb par mak wea kob nu hek hew clo clm sta) : ∃ v, fX5_wornKeys mw ke lk wea = some v ∧ fX8_wornKeys st = some v := by
  obtain ⟨⟨rfl, rfl, rfl⟩, ⟨t1, t2, t3, t4, t5, t6, t7, t8⟩, ⟨c1, ⟨m, m1, m2, rfl⟩, c3⟩, hW, hH, hU, ⟨s0, s1, s2, s3⟩, hK, hBx, hR⟩ := id h
  obtain ⟨a1, g1, g2⟩ := mask_loop (n := nk) (fun fuel acc i => fX5_wornKeys_b4 fuel (nI m) (nI nk) lk wea acc (nI i)) (fun acc => some (acc &&& lk)) (fun j => decide (wea j = nI 0) && false || decide (fX5_leftToClose (nI m) wea (nI j) = 0))
    (fun fuel acc => by show fX5_wornKeys_b4 _ _ _ _ _ _ _ = _; rw [fX5_wornKeys_b4, if_pos (nI_le (Nat.le_refl _) (by omega))])
    (fun fuel acc i hi => by
      show ∃ acc', _ ∧ fX5_wornKeys_b4 _ _ _ _ _ _ _ = _
      rw [fX5_wornKeys_b4, if_neg (nI_ge hi (by omega)), nI_1]
      by_cases hc : fX5_leftToClose (nI m) wea (nI i) = 0
      · rw [if_pos hc]
        exact ⟨_, acc_in (by omega) (by simp [hc]), rfl⟩
      · rw [if_neg hc]
        exact ⟨acc, acc_out (by simp [hc]), rfl⟩) 6000 0 0 (by omega) (by omega)
  obtain ⟨a2, g3, g4⟩ := mask_loop (n := nk) (fun fuel acc i => fX8_wornKeys_b4 fuel st acc (nI i)) (fun acc => some acc) (fun j => bt lk j && decide (fX5_leftToClose (nI m) wea (nI j) = 0))
    (fun fuel acc => by show fX8_wornKeys_b4 _ _ _ _ = _; rw [fX8_wornKeys_b4, if_neg ix1, cl1, s1, if_pos (nI_le (Nat.le_refl _) (by omega))])
    (fun fuel acc i hi => by
      show ∃ acc', _ ∧ fX8_wornKeys_b4 _ _ _ _ = _
      obtain ⟨-, x, x1, x2⟩ := c3 i hi
      obtain ⟨l1, l2⟩ := left_both (mw := nI m) (wea := wea) (st := st) (k := i) (by omega) m2 (by omega : x ≤ 120) rfl x2 s0 (hK i hi).2.2.2
      rw [fX8_wornKeys_b4, if_neg ix1, cl1, s1, if_neg (nI_ge hi (by omega)), key1 (by omega), Option.bind_some, (hK i hi).2.1, nI_1]
      by_cases hl : bt lk i = true
      · rw [if_pos (bit1_eq.mpr hl), l2, Option.bind_some]
        by_cases hc : m ≤ x
        · rw [if_pos hc, if_pos rfl]
          exact ⟨_, acc_sh (by omega) (by rw [l1, hl, (left_z m2).mpr hc]; rfl), rfl⟩
        · rw [if_neg hc, if_neg (show ¬ ((1 : Int32) = 0) by decide)]
          exact ⟨_, acc_or0 (by rw [l1, decide_eq_false (fun q => hc ((left_z m2).mp q)), Bool.and_false]), rfl⟩
      · rw [if_neg (fun q => hl (bit1_eq.mp q))]
        exact ⟨_, acc_or0 (by rw [Bool.eq_false_iff.mpr hl, Bool.false_and]), rfl⟩) 6000 0 0 (by omega) (by omega)
  refine ⟨a1 &&& lk, g1, g3.trans (congrArg some (b_ext (fun i hi => ?_)))⟩
  rw [g4 i hi, b_and, g2 i hi, b_0]
  by_cases hin : i < nk
  · simp [hin, Bool.and_comm]
  · simp [hin]
/-- the most worn key -/
theorem leftOf_eq {m x k : Nat} (hk : k < 20) (hm : m ≤ 30) (hx : x ≤ 120) (s0 : st 0 = nI m) (e : st (4 + 4 * k + 3) = nI x) : fX8_leftOf st (nI k) = some (nI (m - x)) := by
  unfold fX8_leftOf
  rw [if_neg ix0, cl0, key3 hk, Option.bind_some, s0, e]
  by_cases h : m ≤ x
  · have hz : nI m - nI x ≤ 0 := by
      rw [Int32.le_iff_toInt_le, pk_sub_toInt (by omega) (by omega)]
      have : (0 : Int32).toInt = 0 := by decide
      omega
    have : m - x = 0 := by omega
    rw [if_pos hz, this]; rfl
  · have hz : ¬ nI m - nI x ≤ 0 := by
      rw [Int32.le_iff_toInt_le, pk_sub_toInt (by omega) (by omega)]
      have : (0 : Int32).toInt = 0 := by decide
      omega
    rw [if_neg hz, pk_sub (by omega)]
end MORE

/-! a wrap in one number: its parts, by bits -/
theorem ifc {α : Type} {c d : Prop} [h1 : Decidable c] [h2 : Decidable d] (h : c ↔ d) {a b : α} : (if c then a else b) = if d then a else b := by
  by_cases hc : c
  · rw [if_pos hc, if_pos (h.mp hc)]
  · rw [if_neg hc, if_neg (fun q => hc (h.mpr q))]
theorem b_63 (i : Nat) (hi : i < 32) : bt 63 i = decide (i < 6) := (by decide +kernel : ∀ i, i < 32 → bt 63 i = decide (i < 6)) i hi
theorem b_h18 (i : Nat) (hi : i < 32) : bt 262144 i = decide (i = 18) := (by decide +kernel : ∀ i, i < 32 → bt 262144 i = decide (i = 18)) i hi
theorem b_n18 (i : Nat) (hi : i < 32) : bt (-262145) i = !decide (i = 18) := (by decide +kernel : ∀ i, i < 32 → bt (-262145) i = !decide (i = 18)) i hi
theorem fld_bt {s w : Nat} (hs : s + w ≤ 32) (hs2 : s < 32) {M : Int32} (hM : ∀ j, j < 32 → bt M j = decide (j < w)) (x : Int32) {j : Nat} (hj : j < 32) : bt ((x >>> (nI s &&& 31)) &&& M) j = (decide (j < w) && bt x (s + j)) := by
  rw [b_and, b_sshr s hs2 x hj, hM j hj]
  by_cases h : j < w
  · rw [if_pos (by omega), decide_eq_true h, Bool.and_true, Bool.true_and]
  · rw [decide_eq_false h, Bool.and_false, Bool.false_and]
theorem key_bt (x : Int32) {j : Nat} (hj : j < 32) : bt (fL_key x) j = (decide (j < 3) && bt x j) := by
  unfold fL_key
  rw [b_and, b_7, Bool.and_comm]
theorem which_bt (x : Int32) {j : Nat} (hj : j < 32) : bt (fL_which x) j = (decide (j < 6) && bt x (3 + j)) := fld_bt (s := 3) (w := 6) (by omega) (by omega) (fun j hj => b_63 j hj) x hj
theorem closer_bt (x : Int32) {j : Nat} (hj : j < 32) : bt (fL_closer x) j = (decide (j < 3) && bt x (9 + j)) := fld_bt (s := 9) (w := 3) (by omega) (by omega) (fun j _ => b_7 j) x hj
theorem closed_bt (x : Int32) {j : Nat} (hj : j < 32) : bt (fL_closed x) j = (decide (j < 6) && bt x (12 + j)) := fld_bt (s := 12) (w := 6) (by omega) (by omega) (fun j hj => b_63 j hj) x hj
def fHo (x : Int32) : Int32 := (x >>> (18 &&& 31)) &&& 1
def fPl (x : Int32) : Int32 := (x >>> (19 &&& 31)) &&& 7
theorem ho_bt (x : Int32) {j : Nat} (hj : j < 32) : bt (fHo x) j = (decide (j < 1) && bt x (18 + j)) := fld_bt (s := 18) (w := 1) (by omega) (by omega) (fun j _ => by rw [b_1]; congr 1; exact propext ⟨fun h => by omega, fun h => by omega⟩) x hj
theorem pl_bt (x : Int32) {j : Nat} (hj : j < 32) : bt (fPl x) j = (decide (j < 3) && bt x (19 + j)) := fld_bt (s := 19) (w := 3) (by omega) (by omega) (fun j _ => b_7 j) x hj
/-- the parts of a wrap in one number -/
def AC (x kf y c m i p : Int32) : Prop := fL_key x = kf ∧ fL_which x = y ∧ fL_closer x = c ∧ fL_closed x = m ∧ fHo x = i ∧ fPl x = p
theorem low_congr {x z : Int32} (h : ∀ j, j < 18 → bt z j = bt x j) : fL_key z = fL_key x ∧ fL_which z = fL_which x ∧ fL_closer z = fL_closer x ∧ fL_closed z = fL_closed x := by
  refine ⟨b_ext fun j hj => ?_, b_ext fun j hj => ?_, b_ext fun j hj => ?_, b_ext fun j hj => ?_⟩
  · rw [key_bt z hj, key_bt x hj]
    by_cases q : j < 3
    · rw [h j (by omega)]
    · simp [q]
  · rw [which_bt z hj, which_bt x hj]
    by_cases q : j < 6
    · rw [h (3 + j) (by omega)]
    · simp [q]
  · rw [closer_bt z hj, closer_bt x hj]
    by_cases q : j < 3
    · rw [h (9 + j) (by omega)]
    · simp [q]
  · rw [closed_bt z hj, closed_bt x hj]
    by_cases q : j < 6
    · rw [h (12 + j) (by omega)]
    · simp [q]
theorem AC_burn {x kf y c m i p : Int32} (h : AC x kf y c m i p) : AC (x &&& (-262145)) kf y c m 0 p := by
  obtain ⟨h1, h2, h3, h4, h5, h6⟩ := h
  have hb : ∀ j, j < 32 → bt (x &&& (-262145)) j = (bt x j && !decide (j = 18)) := fun j hj => by rw [b_and, b_n18 j hj]
  obtain ⟨g1, g2, g3, g4⟩ := low_congr (x := x) (z := x &&& (-262145)) (fun j hj => by rw [hb j (by omega), decide_eq_false (by omega)]; simp)
  refine ⟨g1.trans h1, g2.trans h2, g3.trans h3, g4.trans h4, b_ext fun j hj => ?_, (b_ext fun j hj => ?_).trans h6⟩
  · rw [ho_bt _ hj, b_0]
    by_cases q : j < 1
    · rw [hb (18 + j) (by omega), decide_eq_true (show 18 + j = 18 by omega)]; simp
    · simp [q]
  · rw [pl_bt _ hj, pl_bt _ hj]
    by_cases q : j < 3
    · rw [hb (19 + j) (by omega), decide_eq_false (show ¬ 19 + j = 18 by omega)]; simp
    · simp [q]
theorem bit_at {s : Nat} (hs : s < 32) {i : Nat} (hi : i < 32) : bt ((1 : Int32) <<< (nI s &&& 31)) i = decide (i = s) := by
  rw [b_shl s hs 1 hi, b_1]
  by_cases h : i = s
  · subst h; simp
  · rcases Nat.lt_or_ge i s with h1 | h1
    · simp [h, show ¬ s ≤ i by omega]
    · simp [h, show ¬ i - s = 0 by omega]
theorem AC_set {x kf y c m i p : Int32} (h : AC x kf y c m i p) {q : Nat} (hq : q < 3) : AC (x ||| ((1 : Int32) <<< (nI (19 + q) &&& 31))) kf y c m i (p ||| ((1 : Int32) <<< (nI q &&& 31))) := by
  obtain ⟨h1, h2, h3, h4, h5, h6⟩ := h
  have hb : ∀ j, j < 32 → bt (x ||| ((1 : Int32) <<< (nI (19 + q) &&& 31))) j = (bt x j || decide (j = 19 + q)) := fun j hj => by rw [b_or, bit_at (by omega) hj]
  obtain ⟨g1, g2, g3, g4⟩ := low_congr (x := x) (z := x ||| ((1 : Int32) <<< (nI (19 + q) &&& 31))) (fun j hj => by rw [hb j (by omega), decide_eq_false (by omega)]; simp)
  refine ⟨g1.trans h1, g2.trans h2, g3.trans h3, g4.trans h4, (b_ext fun j hj => ?_).trans h5, b_ext fun j hj => ?_⟩
  · rw [ho_bt _ hj, ho_bt _ hj]
    by_cases r : j < 1
    · rw [hb (18 + j) (by omega), decide_eq_false (show ¬ 18 + j = 19 + q by omega)]; simp
    · simp [r]
  · rw [← h6, pl_bt _ hj, b_or (fPl x), pl_bt x hj, bit_at (by omega) hj]
    by_cases r : j < 3
    · rw [hb (19 + j) (by omega)]
      have e : (19 + j = 19 + q) ↔ (j = q) := by omega
      simp [r, e]
    · have : ¬ j = q := by omega
      simp [r, this]
theorem tb0 {a w j : Nat} (ha : a < 2 ^ w) (hj : w ≤ j) : a.testBit j = false := Nat.testBit_lt_two_pow (Nat.lt_of_lt_of_le ha (Nat.pow_le_pow_right (by omega) hj))
theorem made_bt {a b c d : Nat} (ha : a < 8) (hb : b < 64) (hc : c < 8) (hd : d < 64) {i : Nat} (hi : i < 32) : bt (fL_made (nI a) (nI b) (nI c) (nI d)) i = ((((a.testBit i || (decide (3 ≤ i) && b.testBit (i - 3))) || (decide (9 ≤ i) && c.testBit (i - 9))) || (decide (12 ≤ i) && d.testBit (i - 12))) || decide (i = 18)) := by
  unfold fL_made
  have e1 : bt (nI b <<< ((3 : Int32) &&& 31)) i = (decide (3 ≤ i) && bt (nI b) (i - 3)) := b_shl 3 (by omega) _ hi
  have e2 : bt (nI c <<< ((9 : Int32) &&& 31)) i = (decide (9 ≤ i) && bt (nI c) (i - 9)) := b_shl 9 (by omega) _ hi
  have e3 : bt (nI d <<< ((12 : Int32) &&& 31)) i = (decide (12 ≤ i) && bt (nI d) (i - 12)) := b_shl 12 (by omega) _ hi
  rw [b_or, b_or, b_or, b_or, b_h18 i hi, e1, e2, e3, bt_nI (by omega), bt_nI (by omega), bt_nI (by omega), bt_nI (by omega)]
theorem AC_made {a b c d : Nat} (ha : a < 8) (hb : b < 64) (hc : c < 8) (hd : d < 64) : AC (fL_made (nI a) (nI b) (nI c) (nI d)) (nI a) (nI b) (nI c) (nI d) 1 0 := by
  refine ⟨b_ext fun j hj => ?_, b_ext fun j hj => ?_, b_ext fun j hj => ?_, b_ext fun j hj => ?_, b_ext fun j hj => ?_, b_ext fun j hj => ?_⟩
  · rw [key_bt _ hj, bt_nI (by omega)]
    by_cases q : j < 3
    · rw [made_bt ha hb hc hd (by omega)]
      simp [q, show ¬ 3 ≤ j by omega, show ¬ 9 ≤ j by omega, show ¬ 12 ≤ j by omega, show ¬ j = 18 by omega]
    · rw [tb0 (w := 3) ha (by omega)]; simp [q]
  · rw [which_bt _ hj, bt_nI (by omega)]
    by_cases q : j < 6
    · rw [made_bt ha hb hc hd (by omega), tb0 (w := 3) ha (by omega : 3 ≤ 3 + j)]
      simp [q, show ¬ 9 ≤ 3 + j by omega, show ¬ 12 ≤ 3 + j by omega, show ¬ 3 + j = 18 by omega]
    · rw [tb0 (w := 6) hb (by omega)]; simp [q]
  · rw [closer_bt _ hj, bt_nI (by omega)]
    by_cases q : j < 3
    · rw [made_bt ha hb hc hd (by omega), tb0 (w := 3) ha (by omega : 3 ≤ 9 + j), tb0 (w := 6) hb (by omega : 6 ≤ 9 + j - 3)]
      simp [q, show ¬ 12 ≤ 9 + j by omega, show ¬ 9 + j = 18 by omega]
    · rw [tb0 (w := 3) hc (by omega)]; simp [q]
  · rw [closed_bt _ hj, bt_nI (by omega)]
    by_cases q : j < 6
    · rw [made_bt ha hb hc hd (by omega), tb0 (w := 3) ha (by omega : 3 ≤ 12 + j), tb0 (w := 6) hb (by omega : 6 ≤ 12 + j - 3), tb0 (w := 3) hc (by omega : 3 ≤ 12 + j - 9)]
      simp [q, show ¬ 12 + j = 18 by omega]
    · rw [tb0 (w := 6) hd (by omega)]; simp [q]
  · rw [ho_bt _ hj, b_1]
    by_cases q : j < 1
    · have h0 : j = 0 := by omega
      subst h0
      rw [made_bt ha hb hc hd (by omega)]; simp
    · simp [q, show ¬ j = 0 by omega]
  · rw [pl_bt _ hj, b_0]
    by_cases q : j < 3
    · rw [made_bt ha hb hc hd (by omega), tb0 (w := 3) ha (by omega : 3 ≤ 19 + j), tb0 (w := 6) hb (by omega : 6 ≤ 19 + j - 3), tb0 (w := 3) hc (by omega : 3 ≤ 19 + j - 9), tb0 (w := 6) hd (by omega : 6 ≤ 19 + j - 12)]
      simp [show ¬ 19 + j = 18 by omega]
    · simp [q]
/-- one place's bit -/
theorem AC_place {x kf y c m i p : Int32} (h : AC x kf y c m i p) {q : Nat} (hq : q < 3) : (x >>> (nI (19 + q) &&& 31)) &&& 1 = (p >>> (nI q &&& 31)) &&& 1 := by
  rw [shr_1 (by omega), shr_1 (by omega), ← h.2.2.2.2.2, pl_bt _ (by omega), decide_eq_true hq, Bool.true_and]
/-- by a set of places -/
theorem AC_hand {x kf y c m i p : Int32} (h : AC x kf y c m i p) {q : Nat} (hq : q < 8) : (x >>> ((19 : Int32) &&& 31)) &&& nI q = p &&& nI q := by
  apply b_ext
  intro j hj
  have e1 : bt (x >>> ((19 : Int32) &&& 31)) j = if 19 + j < 32 then bt x (19 + j) else bt x 31 := b_sshr 19 (by omega) x hj
  rw [b_and, b_and, bt_nI (by omega), ← h.2.2.2.2.2, pl_bt _ hj, e1]
  by_cases r : j < 3
  · rw [if_pos (by omega)]; simp [r]
  · rw [tb0 (w := 3) hq (by omega)]; simp

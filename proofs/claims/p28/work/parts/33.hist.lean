/-! moves, record, noteBefore, settle, stepBack: what is kept -/
theorem moves_eq {n n2 a b : Nat} (f : Nat → Int32) (ha : a + 844 ≤ n) (hb : b + 844 ≤ n2) (hn : n < 10000) (hn2 : n2 < 10000) (g : Nat → Int32) : ∃ g', fX8_moves n n2 f g (nI a) (nI b) = some g' ∧ (∀ k, k < 844 → g' (b + k) = f (a + k)) ∧ ∀ k, (k < b ∨ b + 844 ≤ k) → g' k = g k := by
  have key : ∀ fuel i g, i ≤ 844 → 844 < i + fuel → ∃ g', fX8_moves_b3 n n2 fuel f g (nI a) (nI b) (nI i) = some g' ∧ (∀ k, i ≤ k → k < 844 → g' (b + k) = f (a + k)) ∧ ∀ k, (k < b + i ∨ b + 844 ≤ k) → g' k = g k := by
    intro fuel
    induction fuel with
    | zero => intro i g h1 h2; omega
    | succ fuel ih =>
      intro i g h1 h2
      rw [fX8_moves_b3]
      by_cases h : i < 844
      · have hc : ¬ (844 : Int32) ≤ nI i := nI_ge (a := i) (b := 844) h (by omega)
        rw [if_neg hc, nI_add, nI_add, if_neg (nI_in (by omega) (by omega)), if_neg (nI_in (by omega) (by omega)), nI_clamp (by omega), nI_clamp (by omega), nI_1]
        obtain ⟨g', e1, e2, e3⟩ := ih (i + 1) (upd g (b + i) (f (a + i))) h (by omega)
        refine ⟨g', e1, fun k hk1 hk2 => ?_, fun k hk => ?_⟩
        · by_cases hki : k = i
          · subst hki
            rw [e3 _ (Or.inl (by omega)), pk_us]
          · exact e2 k (by omega) hk2
        · rw [e3 k (by omega), pk_un (by omega)]
      · have hi : i = 844 := by omega
        subst hi
        have hc : (844 : Int32) ≤ nI 844 := nI_le (Nat.le_refl 844) (by omega)
        rw [if_pos hc]
        exact ⟨g, rfl, fun k h1 h2 => by omega, fun k _ => rfl⟩
  obtain ⟨g', e1, e2, e3⟩ := key 6000 0 g (by omega) (by omega)
  exact ⟨g', e1, fun k hk => e2 k (Nat.zero_le _) hk, fun k hk => e3 k (by omega)⟩
/-- record: the states that are kept, oldest first -/
theorem record_lt {kp : Nat} (hk : kp < 6) (st hi : Nat → Int32) : ∃ hi', fX8_record st hi (nI kp) = some (hi', nI (kp + 1)) ∧ (∀ k, k < 844 → hi' (kp * 844 + k) = st k) ∧ ∀ k, k < kp * 844 → hi' k = hi k := by
  have hne : ¬ nI kp = 6 := fun h => by
    have := (nI_eq (a := kp) (b := 6) (by omega) (by omega)).mp h
    omega
  have hm : nI kp * 844 = nI (kp * 844) := pk_mul kp 844
  obtain ⟨g', e1, e2, e3⟩ := moves_eq (n := 844) (n2 := 5064) (a := 0) (b := kp * 844) st (by omega) (by omega) (by omega) (by omega) hi
  refine ⟨g', ?_, fun k hk => by rw [e2 k hk, Nat.zero_add], fun k hk => e3 k (Or.inl hk)⟩
  unfold fX8_record
  rw [if_neg hne, hm]
  have e1' : fX8_moves 844 5064 st hi 0 (nI (kp * 844)) = some g' := e1
  rw [e1', Option.bind_some, nI_1]
theorem record_6 (st hi : Nat → Int32) : ∃ hi', fX8_record st hi (nI 6) = some (hi', nI 6) ∧ (∀ k, k < 844 → hi' (5 * 844 + k) = st k) ∧ ∀ k, k < 5 * 844 → hi' k = hi (k + 844) := by
  have key : ∀ fuel i (h : Nat → Int32), i ≤ 4220 → 4220 < i + fuel → ∃ hi', fX8_record_b11 fuel st h (nI 6) (nI i) = some (hi', nI 6) ∧ (∀ k, k < 844 → hi' (5 * 844 + k) = st k) ∧ (∀ k, i ≤ k → k < 5 * 844 → hi' k = h (k + 844)) ∧ ∀ k, k < i → hi' k = h k := by
    intro fuel
    induction fuel with
    | zero => intro i h h1 h2; omega
    | succ fuel ih =>
      intro i h h1 h2
      rw [fX8_record_b11]
      by_cases hlt : i < 4220
      · have hc : ¬ (4220 : Int32) ≤ nI i := nI_ge (a := i) (b := 4220) hlt (by omega)
        have ha : nI i + 844 = nI (i + 844) := nI_add i 844
        rw [if_neg hc, ha, if_neg (nI_in (by omega) (by omega)), if_neg (nI_in (by omega) (by omega)), nI_clamp (by omega), nI_clamp (by omega), nI_1]
        obtain ⟨g', e1, e2, e3, e4⟩ := ih (i + 1) (upd h i (h (i + 844))) hlt (by omega)
        refine ⟨g', e1, e2, fun k hk1 hk2 => ?_, fun k hk => ?_⟩
        · by_cases hki : k = i
          · subst hki
            rw [e4 k (by omega), pk_us]
          · rw [e3 k (by omega) hk2, pk_un (by omega)]
        · rw [e4 k (by omega), pk_un (by omega)]
      · have hi : i = 4220 := by omega
        subst hi
        have hc : (4220 : Int32) ≤ nI 4220 := nI_le (Nat.le_refl 4220) (by omega)
        have h5 : (nI 6 - 1) = nI 5 := by decide
        have hm : nI 5 * 844 = nI (5 * 844) := pk_mul 5 844
        obtain ⟨g', e1, e2, e3⟩ := moves_eq (n := 844) (n2 := 5064) (a := 0) (b := 5 * 844) st (by omega) (by omega) (by omega) (by omega) h
        have e1' : fX8_moves 844 5064 st h 0 (nI (5 * 844)) = some g' := e1
        rw [if_pos hc, h5, hm, e1', Option.bind_some, nI_1]
        exact ⟨g', rfl, fun k hk => by rw [e2 k hk, Nat.zero_add], fun k h1 h2 => by omega, fun k hk => e3 k (Or.inl (by omega))⟩
  obtain ⟨g', e1, e2, e3, -⟩ := key 6000 0 hi (by omega) (by omega)
  refine ⟨g', ?_, e2, fun k hk => e3 k (Nat.zero_le _) hk⟩
  unfold fX8_record
  exact (if_pos rfl).trans e1
/-- the class's copy of a house -/
def copyV (v w : HV) : HV := (w.1, w.2.1, w.2.2.1, w.2.2.2.1, w.2.2.2.2.1, rCopy 20 v.2.2.2.2.2.1 w.2.2.2.2.2.1, rCopy 20 v.2.2.2.2.2.2.1 w.2.2.2.2.2.2.1, rCopy 20 v.2.2.2.2.2.2.2.1 w.2.2.2.2.2.2.2.1, rCopy 20 v.2.2.2.2.2.2.2.2.1 w.2.2.2.2.2.2.2.2.1, w.2.2.2.2.2.2.2.2.2.1, rCopy 120 v.2.2.2.2.2.2.2.2.2.2.1 w.2.2.2.2.2.2.2.2.2.2.1, rCopy 120 v.2.2.2.2.2.2.2.2.2.2.2.1 w.2.2.2.2.2.2.2.2.2.2.2.1, rCopy 120 v.2.2.2.2.2.2.2.2.2.2.2.2.1 w.2.2.2.2.2.2.2.2.2.2.2.2.1, rCopy 120 v.2.2.2.2.2.2.2.2.2.2.2.2.2.1 w.2.2.2.2.2.2.2.2.2.2.2.2.2.1, rCopy 120 v.2.2.2.2.2.2.2.2.2.2.2.2.2.2 w.2.2.2.2.2.2.2.2.2.2.2.2.2.2)
theorem become_eq (v w : HV) : fX1_become v.1 v.2.1 v.2.2.1 v.2.2.2.1 v.2.2.2.2.1 v.2.2.2.2.2.1 v.2.2.2.2.2.2.1 v.2.2.2.2.2.2.2.1 v.2.2.2.2.2.2.2.2.1 v.2.2.2.2.2.2.2.2.2.1 v.2.2.2.2.2.2.2.2.2.2.1 v.2.2.2.2.2.2.2.2.2.2.2.1 v.2.2.2.2.2.2.2.2.2.2.2.2.1 v.2.2.2.2.2.2.2.2.2.2.2.2.2.1 v.2.2.2.2.2.2.2.2.2.2.2.2.2.2 w.1 w.2.1 w.2.2.1 w.2.2.2.1 w.2.2.2.2.1 w.2.2.2.2.2.1 w.2.2.2.2.2.2.1 w.2.2.2.2.2.2.2.1 w.2.2.2.2.2.2.2.2.1 w.2.2.2.2.2.2.2.2.2.1 w.2.2.2.2.2.2.2.2.2.2.1 w.2.2.2.2.2.2.2.2.2.2.2.1 w.2.2.2.2.2.2.2.2.2.2.2.2.1 w.2.2.2.2.2.2.2.2.2.2.2.2.2.1 w.2.2.2.2.2.2.2.2.2.2.2.2.2.2 = some (copyV v w) := by
  unfold fX1_become fX5_become fX6_become
  rfl

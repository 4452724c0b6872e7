/-! the text read on both sides -/
theorem dig_1 {d m : Nat} (hd : d ≤ m) (hm : m ≤ 9) : fX3_isDigit (nI (48 + d)) (nI m) = 1 := by
  unfold fX3_isDigit
  have e : (48 : Int32) + nI m = nI (48 + m) := nI_add 48 m
  rw [if_neg (show ¬ nI (48 + d) < 48 from nI_nlt (b := 48) (by omega) (by omega)), e, if_neg (nI_nlt (by omega) (by omega))]
theorem wit_1 {d m : Nat} (hd : d ≤ m) (hm : m ≤ 9) : fX8_within (nI (48 + d)) 48 (nI (48 + m)) = 1 := by
  unfold fX8_within
  rw [if_neg (show ¬ nI (48 + d) < 48 from nI_nlt (b := 48) (by omega) (by omega)), if_neg (nI_nlt (by omega) (by omega))]
theorem val_eq (t d : Nat) : (10 : Int32) * nI t + nI (48 + d) - 48 = nI (10 * t + d) := by
  have e1 : (10 : Int32) * nI t = nI (10 * t) := pk_mul 10 t
  have e2 : nI (10 * t + (48 + d)) - 48 = nI (10 * t + (48 + d) - 48) := pk_sub (b := 48) (by omega)
  rw [e1, nI_add, e2]
  congr 1; omega
theorem val_0 (z d : Nat) : nI z + nI (48 + d) - 48 = nI (z + d) := by
  have e2 : nI (z + (48 + d)) - 48 = nI (z + (48 + d) - 48) := pk_sub (b := 48) (by omega)
  rw [nI_add, e2]
  congr 1; omega
theorem letter_eq (c : Int32) : fX3_isLetter c = fX8_isOrder c := by
  unfold fX3_isLetter fX8_isOrder
  by_cases h1 : c = 98
  · subst h1; rfl
  · by_cases h2 : c = 99
    · subst h2; rfl
    · by_cases h3 : c = 107
      · subst h3; rfl
      · by_cases h4 : c = 114
        · subst h4; rfl
        · by_cases h5 : c = 120
          · subst h5; rfl
          · by_cases h6 : c = 121
            · subst h6; rfl
            · rw [if_neg h1, if_neg h2, if_neg h3, if_neg h4, if_neg h5, if_neg h6, if_neg h3, if_neg h1, if_neg h4, if_neg h5, if_neg h6, if_neg h2]
theorem order_01 (c : Int32) : fX8_isOrder c = 0 ∨ fX8_isOrder c = 1 := by
  unfold fX8_isOrder
  by_cases h1 : c = 107
  · rw [if_pos h1]; exact Or.inr rfl
  · rw [if_neg h1]
    by_cases h2 : c = 98
    · rw [if_pos h2]; exact Or.inr rfl
    · rw [if_neg h2]
      by_cases h3 : c = 114
      · rw [if_pos h3]; exact Or.inr rfl
      · rw [if_neg h3]
        by_cases h4 : c = 120
        · rw [if_pos h4]; exact Or.inr rfl
        · rw [if_neg h4]
          by_cases h5 : c = 121
          · rw [if_pos h5]; exact Or.inr rfl
          · rw [if_neg h5]
            by_cases h6 : c = 99
            · rw [if_pos h6]; exact Or.inr rfl
            · rw [if_neg h6]; exact Or.inl rfl
section TEXT
variable {n : Nat} {sg pd : Nat → Int32}
theorem ns_in (hn : n ≤ 60) {i : Nat} (hi : i < n) : fX3_nextSign sg (nI n) (nI i) = sg i := by
  unfold fX3_nextSign fX3_hasMore
  rw [if_neg (nI_ge hi (by omega)), if_neg (by decide), rAt_nI (by omega) (by omega)]
theorem ns_out (hn : n ≤ 60) : fX3_nextSign sg (nI n) (nI n) = 0 := by
  unfold fX3_nextSign fX3_hasMore
  rw [if_pos (nI_le (Nat.le_refl n) (by omega)), if_pos rfl]
theorem ch_in (hn : n ≤ 60) {i : Nat} (hi : i < n) : fX8_character pd (nI n) (nI i) = some (pd i) := by
  unfold fX8_character
  rw [if_neg (nI_ge hi (by omega)), if_neg (nI_in (by omega) (by omega)), nI_clamp (by omega)]
theorem ch_out (hn : n ≤ 60) : fX8_character pd (nI n) (nI n) = some (-1) := by
  unfold fX8_character
  rw [if_pos (nI_le (Nat.le_refl n) (by omega))]
theorem more_in (hn : n ≤ 60) {i : Nat} (hi : i < n) : fX3_hasMore (nI n) (nI i) = 1 := by
  unfold fX3_hasMore
  rw [if_neg (nI_ge hi (by omega))]
theorem more_out (hn : n ≤ 60) : fX3_hasMore (nI n) (nI n) = 0 := by
  unfold fX3_hasMore
  rw [if_pos (nI_le (Nat.le_refl n) (by omega))]
theorem skip_both (hn : n ≤ 60) (hE : ∀ i, i < n → sg i = pd i) {i : Nat} (hi : i ≤ n) {K : Int32} (k0 : ¬ (0 : Int32) = K) (k1 : ¬ (-1 : Int32) = K) :
    (i < n ∧ fX3_skip sg (nI n) (nI i) K = some (1, nI (i + 1)) ∧ fX8_takes pd (nI n) (nI i) K = some (1, nI (i + 1))) ∨ (fX3_skip sg (nI n) (nI i) K = some (0, nI i) ∧ fX8_takes pd (nI n) (nI i) K = some (0, nI i)) := by
  unfold fX3_skip fX8_takes
  by_cases h : i < n
  · rw [ns_in hn h, ch_in hn h, Option.bind_some, hE i h, nI_1]
    by_cases hK : pd i = K
    · rw [if_pos hK, if_pos hK]
      exact Or.inl ⟨h, rfl, rfl⟩
    · rw [if_neg hK, if_neg hK, Int32.add_zero]
      exact Or.inr ⟨rfl, rfl⟩
  · have hin : i = n := by omega
    subst hin
    rw [ns_out hn, ch_out hn, Option.bind_some, if_neg k0, if_neg k1, Int32.add_zero]
    exact Or.inr ⟨rfl, rfl⟩
theorem digit_both (hn : n ≤ 60) (hE : ∀ i, i < n → sg i = pd i) {i m : Nat} (hi : i ≤ n) (hm : m ≤ 9) :
    (∃ d, d ≤ m ∧ i < n ∧ sg i = nI (48 + d) ∧ pd i = nI (48 + d)) ∨ (fX3_isDigit (fX3_nextSign sg (nI n) (nI i)) (nI m) = 0 ∧ ∃ c, fX8_character pd (nI n) (nI i) = some c ∧ fX8_within c 48 (nI (48 + m)) = 0) := by
  by_cases h : i < n
  · have he := hE i h
    rw [ns_in hn h, ch_in hn h, he]
    generalize pd i = c
    unfold fX3_isDigit fX8_within
    have e : (48 : Int32) + nI m = nI (48 + m) := nI_add 48 m
    rw [e]
    by_cases h1 : c < 48
    · rw [if_pos h1]
      exact Or.inr ⟨rfl, c, rfl, if_pos h1⟩
    · rw [if_neg h1]
      by_cases h2 : nI (48 + m) < c
      · rw [if_pos h2]
        exact Or.inr ⟨rfl, c, rfl, by rw [if_neg h1, if_pos h2]⟩
      · rcases pos_or c with hq | ⟨k, hk, rfl⟩
        · refine absurd ?_ h1
          rw [Int32.lt_iff_toInt_lt] at hq ⊢
          have z : (0 : Int32).toInt = 0 := by decide
          have z2 : (48 : Int32).toInt = 48 := by decide
          omega
        · have k1 : 48 ≤ k := by
            rcases Nat.lt_or_ge k 48 with q | q
            · exact absurd (show nI k < 48 from nI_lt (b := 48) q (by omega)) h1
            · exact q
          have k2 : k ≤ 48 + m := by
            rcases Nat.lt_or_ge (48 + m) k with q | q
            · exact absurd (nI_lt q hk) h2
            · exact q
          have hkk : k = 48 + (k - 48) := by omega
          refine Or.inl ⟨k - 48, by omega, h, ?_, ?_⟩
          · rw [← hkk]
          · rw [← hkk]
  · have hin : i = n := by omega
    subst hin
    rw [ns_out hn, ch_out hn]
    exact Or.inr ⟨rfl, -1, rfl, rfl⟩
theorem num_tail (hn : n ≤ 60) (hE : ∀ i, i < n → sg i = pd i) : ∀ q k i z d F G, k + q = 3 → 1 ≤ k → i < n → pd i = nI (48 + d) → d ≤ 9 → z + d ≤ 119 → (k = 2 → 10 ≤ z + d) → (k = 3 → 100 ≤ z + d) → q < F → q < G →
    ∃ j t, i < j ∧ j ≤ n ∧ t ≤ 119 ∧ fX3_readNumber_b21 F sg (nI n) (nI (i + 1)) (nI (z + d)) (nI k) = some (1, nI j, nI t) ∧ fX8_takeNumber_b34 (fX8_takeNumber_b18 G) pd (nI n) (nI i) (nI z) = some (nI t, nI j) := by
  intro q
  induction q with
  | zero =>
    intro k i z d F G h1 h2 hi hp hd hv c2 c3 hF hG
    obtain ⟨F, rfl⟩ : ∃ F', F = F' + 1 := ⟨F - 1, by omega⟩
    obtain ⟨G, rfl⟩ : ∃ G', G = G' + 1 := ⟨G - 1, by omega⟩
    have hk : k = 3 := by omega
    subst hk
    have h100 := c3 rfl
    have hend : fX8_takeNumber_b18 (G + 1) pd (nI n) (nI (i + 1)) (nI (z + d)) 0 = some (nI (z + d), nI (i + 1)) := by
      rw [fX8_takeNumber_b18, if_pos rfl]
    refine ⟨i + 1, z + d, by omega, hi, hv, ?_, ?_⟩
    · rw [fX3_readNumber_b21, if_pos (show (3 : Int32) ≤ nI 3 by decide)]
    · unfold fX8_takeNumber_b34
      rw [ch_in hn hi, Option.bind_some, hp, val_0, if_neg (nI_nle (by omega) (by omega)), nI_1]
      rcases digit_both hn hE (i := i + 1) (m := 9) hi (by omega) with ⟨d', e1, e2, e3, e4⟩ | ⟨e1, c, e2, e3⟩
      · rw [ch_in hn e2, Option.bind_some, e4]
        have w : fX8_within (nI (48 + d')) 48 57 = 1 := wit_1 (m := 9) e1 (by omega)
        rw [w, if_neg (show ¬ ((1 : Int32) = 0) by decide), Option.bind_some, val_eq, if_pos (show (119 : Int32) < nI (10 * (z + d) + d') from nI_lt (a := 119) (by omega) (by omega))]
        exact hend
      · have w : fX8_within c 48 57 = 0 := e3
        rw [e2, Option.bind_some, w, if_pos rfl]
        exact hend
  | succ q ih =>
    intro k i z d F G h1 h2 hi hp hd hv c2 c3 hF hG
    obtain ⟨F, rfl⟩ : ∃ F', F = F' + 1 := ⟨F - 1, by omega⟩
    obtain ⟨G, rfl⟩ : ∃ G', G = G' + 1 := ⟨G - 1, by omega⟩
    have hend : fX8_takeNumber_b18 (G + 1) pd (nI n) (nI (i + 1)) (nI (z + d)) 0 = some (nI (z + d), nI (i + 1)) := by
      rw [fX8_takeNumber_b18, if_pos rfl]
    rw [fX3_readNumber_b21, if_neg (show ¬ (3 : Int32) ≤ nI k from nI_ge (a := k) (b := 3) (by omega) (by omega))]
    unfold fX8_takeNumber_b34
    rw [ch_in hn hi, Option.bind_some, hp, val_0, nI_1 i]
    rcases digit_both hn hE (i := i + 1) (m := 9) hi (by omega) with ⟨d', e1, e2, e3, e4⟩ | ⟨e1, c, e2, e3⟩
    · have w : fX8_within (nI (48 + d')) 48 57 = 1 := wit_1 (m := 9) e1 (by omega)
      have w2 : fX3_isDigit (nI (48 + d')) 9 = 1 := dig_1 (m := 9) e1 (by omega)
      rw [ns_in hn e2, e3, w2, if_neg (show ¬ ((1 : Int32) = 0) by decide), val_eq, ch_in hn e2, Option.bind_some, e4, w, if_neg (show ¬ ((1 : Int32) = 0) by decide), Option.bind_some, val_eq]
      by_cases hbig : 119 < 10 * (z + d) + d'
      · have hq : (119 : Int32) < nI (10 * (z + d) + d') := nI_lt (a := 119) hbig (by omega)
        rw [if_pos hq, if_pos hq, if_neg (nI_nle (by omega) (by omega))]
        exact ⟨i + 1, z + d, by omega, hi, hv, rfl, hend⟩
      · have hq : ¬ (119 : Int32) < nI (10 * (z + d) + d') := nI_nlt (a := 119) (by omega) (by omega)
        rw [if_neg hq, if_neg hq, if_neg (show ¬ nI k ≤ 0 from nI_nle (by omega) (by omega))]
        by_cases hz : z + d = 0
        · rw [hz, if_pos (show nI 0 = 0 from rfl), if_pos (show nI 0 ≤ 0 by decide)]
          rw [hz] at hend
          exact ⟨i + 1, 0, by omega, hi, by omega, rfl, hend⟩
        · rw [if_neg (nI_ne0 (by omega) (by omega)), if_neg (nI_nle (by omega) (by omega)), nI_1, nI_1]
          obtain ⟨j, t, a1, a2, a3, a4, a5⟩ := ih (k + 1) (i + 1) (10 * (z + d)) d' F G (by omega) (by omega) e2 e4 e1 (by omega) (by omega) (by omega) (by omega) (by omega)
          refine ⟨j, t, by omega, a2, a3, a4, ?_⟩
          have e10 : (10 : Int32) * nI (z + d) = nI (10 * (z + d)) := pk_mul 10 (z + d)
          rw [fX8_takeNumber_b18, if_neg (show ¬ ((1 : Int32) = 0) by decide), if_pos (nI_pos' (by omega)), e10]
          exact a5
    · have w : fX8_within c 48 57 = 0 := e3
      have w2 : fX3_isDigit (fX3_nextSign sg (nI n) (nI (i + 1))) 9 = 0 := e1
      rw [w2, if_pos rfl, e2, Option.bind_some, w, if_pos rfl]
      refine ⟨i + 1, z + d, by omega, hi, hv, rfl, ?_⟩
      by_cases hz : nI (z + d) ≤ 0
      · rw [if_pos hz]; exact hend
      · rw [if_neg hz]; exact hend
theorem number_both (hn : n ≤ 60) (hE : ∀ i, i < n → sg i = pd i) {i : Nat} (hi : i ≤ n) :
    (∃ j t, i < j ∧ j ≤ n ∧ t ≤ 119 ∧ (∀ tg, fX3_readNumber sg (nI n) (nI i) tg = some (1, nI j, nI t)) ∧ fX8_takeNumber pd (nI n) (nI i) = some (nI t, nI j)) ∨
    ((∀ tg, fX3_readNumber sg (nI n) (nI i) tg = some (0, nI i, tg)) ∧ fX8_takeNumber pd (nI n) (nI i) = some (-1, nI i)) := by
  rcases digit_both hn hE (i := i) (m := 9) hi (by omega) with ⟨d, e1, e2, e3, e4⟩ | ⟨e1, c, e2, e3⟩
  · obtain ⟨j, t, a1, a2, a3, a4, a5⟩ := num_tail hn hE 2 1 i 0 d 5999 5999 (by omega) (by omega) e2 e4 e1 (by omega) (by omega) (by omega) (by omega) (by omega)
    have w : fX8_within (nI (48 + d)) 48 57 = 1 := wit_1 (m := 9) e1 (by omega)
    have w2 : fX3_isDigit (nI (48 + d)) 9 = 1 := dig_1 (m := 9) e1 (by omega)
    have v0 : (10 : Int32) * 0 + nI (48 + d) - 48 = nI (0 + d) := by
      have := val_eq 0 d
      rw [Nat.mul_zero] at this
      exact this
    have z1 : (0 : Int32) + 1 = nI 1 := rfl
    refine Or.inl ⟨j, t, a1, a2, a3, fun tg => ?_, ?_⟩
    · unfold fX3_readNumber
      rw [ns_in hn e2, e3, w2, if_neg (show ¬ ((1 : Int32) = 0) by decide), show (6000 : Nat) = 5999 + 1 from rfl, fX3_readNumber_b21, if_neg (show ¬ (3 : Int32) ≤ 0 by decide), ns_in hn e2, e3, w2, if_neg (show ¬ ((1 : Int32) = 0) by decide), v0,
        if_neg (show ¬ (119 : Int32) < nI (0 + d) from nI_nlt (a := 119) (by omega) (by omega)), if_pos (show (0 : Int32) ≤ 0 by decide), nI_1, z1]
      exact a4
    · unfold fX8_takeNumber
      rw [ch_in hn e2, Option.bind_some, e4, w, show (6000 : Nat) = 5999 + 1 from rfl, fX8_takeNumber_b18, if_neg (show ¬ ((1 : Int32) = 0) by decide), if_neg (show ¬ (0 : Int32) ≤ -1 by decide)]
      exact a5
  · have w : fX8_within c 48 57 = 0 := e3
    have w2 : fX3_isDigit (fX3_nextSign sg (nI n) (nI i)) 9 = 0 := e1
    refine Or.inr ⟨fun tg => ?_, ?_⟩
    · unfold fX3_readNumber
      rw [w2, if_pos rfl]
    · unfold fX8_takeNumber
      rw [e2, Option.bind_some, w, show (6000 : Nat) = 5999 + 1 from rfl, fX8_takeNumber_b18, if_pos rfl]
/-- an order's number and place, behind its letter -/
noncomputable def rsC (sg : Nat → Int32) (length next letter place : Int32) : Option (Int32 × Int32 × Int32 × Int32 × Int32) :=
  (fX3_readNumber sg length next (-6)).bind fun q3 => (if q3.1 = 0 then (some (0, q3.2.1, letter, q3.2.2, place)) else (if letter = 99 then ((fX3_skip sg length q3.2.1 64).bind fun q7 => (if q7.1 = 0 then (some (0, q7.2, letter, q3.2.2, place)) else ((fX3_readPlace sg length q7.2 place).bind fun q10 => (if q10.1 = 0 then (some (0, q10.2.1, letter, q3.2.2, q10.2.2)) else (some (1, q10.2.1, letter, q3.2.2, q10.2.2)))))) else (some (1, q3.2.1, letter, q3.2.2, place))))
theorem readOrder_eq (sg : Nat → Int32) (length next lt tg pc : Int32) : fX3_readOrder sg length next lt tg pc = (if (fX3_isLetter (fX3_nextSign sg length next)) = 0 then (some (0, next, (fX3_nextSign sg length next), tg, pc)) else (if (fX3_nextSign sg length next) = 107 then ((fX3_skip sg length (next + 1) 45).bind fun q13 => (if q13.1 = 0 then rsC sg length q13.2 (fX3_nextSign sg length next) pc else (some (1, q13.2, (fX3_nextSign sg length next), (-6), pc)))) else rsC sg length (next + 1) (fX3_nextSign sg length next) pc)) := rfl
theorem rest_both (hn : n ≤ 60) (hE : ∀ i, i < n → sg i = pd i) {p : Nat} (hp : p ≤ n) (c : Int32) : ∃ (b : Int32) (j : Nat) (T P : Int32), j ≤ n ∧ (b = 0 ∨ (b = 1 ∧ p < j)) ∧ ∀ pc first second, ∃ T1 P1 T2 P2, rsC sg (nI n) (nI p) c pc = some (b, nI j, c, T1, P1) ∧ fX8_readsOrder_b60 pd (nI n) (nI p) c first second = some (b, nI j, c, T2, P2) ∧ (b = 1 → T1 = T ∧ T2 = T ∧ (c = 99 → P1 = P ∧ P2 = P)) := by
  have n1 : ¬ ((1 : Int32) = 0) := by decide
  rcases number_both hn hE hp with ⟨j, t, a1, a2, a3, a4, a5⟩ | ⟨a4, a5⟩
  · have ht : ¬ nI t < 0 := nI_pos (by omega)
    by_cases hc : c = 99
    · rcases skip_both hn hE a2 (K := 64) (by decide) (by decide) with ⟨s1, s2, s3⟩ | ⟨s2, s3⟩
      · rcases digit_both hn hE (i := j + 1) (m := 2) s1 (by omega) with ⟨d, e1, e2, e3, e4⟩ | ⟨e1, c', e2, e3⟩
        · have w : fX8_within (nI (48 + d)) 48 50 = 1 := wit_1 (m := 2) e1 (by omega)
          have w2 : fX3_isDigit (nI (48 + d)) 2 = 1 := dig_1 (m := 2) e1 (by omega)
          refine ⟨1, j + 1 + 1, nI t, nI (48 + d) - 48, e2, Or.inr ⟨rfl, by omega⟩, fun pc first second => ⟨nI t, nI (48 + d) - 48, nI t, nI (48 + d) - 48, ?_, ?_, fun _ => ⟨rfl, rfl, fun _ => ⟨rfl, rfl⟩⟩⟩⟩
          · unfold rsC fX3_readPlace
            rw [a4, Option.bind_some, if_neg n1, if_pos hc, s2, Option.bind_some, if_neg n1, ns_in hn e2, e3, w2, if_neg n1, Option.bind_some, if_neg n1, nI_1]
          · unfold fX8_readsOrder_b60
            rw [a5, Option.bind_some, if_neg ht, if_pos hc, s3, Option.bind_some, if_neg n1, ch_in hn e2, Option.bind_some, e4, w, if_neg n1, Option.bind_some, nI_1]
        · have w : fX8_within c' 48 50 = 0 := e3
          have w2 : fX3_isDigit (fX3_nextSign sg (nI n) (nI (j + 1))) 2 = 0 := e1
          refine ⟨0, j + 1, 0, 0, s1, Or.inl rfl, fun pc first second => ⟨nI t, pc, nI t, second, ?_, ?_, fun q => absurd q (by decide)⟩⟩
          · unfold rsC fX3_readPlace
            rw [a4, Option.bind_some, if_neg n1, if_pos hc, s2, Option.bind_some, if_neg n1, w2, if_pos rfl, Option.bind_some, if_pos rfl]
          · unfold fX8_readsOrder_b60
            rw [a5, Option.bind_some, if_neg ht, if_pos hc, s3, Option.bind_some, if_neg n1, e2, Option.bind_some, w, if_pos rfl]
      · refine ⟨0, j, 0, 0, a2, Or.inl rfl, fun pc first second => ⟨nI t, pc, nI t, second, ?_, ?_, fun q => absurd q (by decide)⟩⟩
        · unfold rsC
          rw [a4, Option.bind_some, if_neg n1, if_pos hc, s2, Option.bind_some, if_pos rfl]
        · unfold fX8_readsOrder_b60
          rw [a5, Option.bind_some, if_neg ht, if_pos hc, s3, Option.bind_some, if_pos rfl]
    · refine ⟨1, j, nI t, 0, a2, Or.inr ⟨rfl, a1⟩, fun pc first second => ⟨nI t, pc, nI t, second, ?_, ?_, fun _ => ⟨rfl, rfl, fun q => absurd q hc⟩⟩⟩
      · unfold rsC
        rw [a4, Option.bind_some, if_neg n1, if_neg hc]
      · unfold fX8_readsOrder_b60
        rw [a5, Option.bind_some, if_neg ht, if_neg hc, if_neg ht]
  · have hm : (-1 : Int32) < 0 := by decide
    refine ⟨0, p, 0, 0, hp, Or.inl rfl, fun pc first second => ⟨-6, pc, -1, second, ?_, ?_, fun q => absurd q (by decide)⟩⟩
    · unfold rsC
      rw [a4, Option.bind_some, if_pos rfl]
    · unfold fX8_readsOrder_b60
      rw [a5, Option.bind_some, if_pos hm, if_pos hm]
theorem order_both (hn : n ≤ 60) (hE : ∀ i, i < n → sg i = pd i) {i : Nat} (hi : i ≤ n) : ∃ (b : Int32) (j : Nat) (L T P : Int32), j ≤ n ∧ (b = 0 ∨ (b = 1 ∧ i < j ∧ fX8_isOrder L = 1)) ∧ ∀ lt tg pc lt' tg' pc', ∃ L1 T1 P1 L2 T2 P2,
    fX3_readOrder sg (nI n) (nI i) lt tg pc = some (b, nI j, L1, T1, P1) ∧ fX8_readsOrder pd (nI n) (nI i) lt' tg' pc' = some (b, nI j, L2, T2, P2) ∧ (b = 1 → L1 = L ∧ L2 = L ∧ T1 = T ∧ T2 = T ∧ (L = 99 → P1 = P ∧ P2 = P)) := by
  have n1 : ¬ ((1 : Int32) = 0) := by decide
  by_cases h : i < n
  · have he := hE i h
    have hns := ns_in (sg := sg) hn h
    rw [he] at hns
    rcases order_01 (pd i) with ho | ho
    · refine ⟨0, i, 0, 0, 0, hi, Or.inl rfl, fun lt tg pc lt' tg' pc' => ⟨pd i, tg, pc, pd i, tg', pc', ?_, ?_, fun q => absurd q (by decide)⟩⟩
      · rw [readOrder_eq, hns, letter_eq, ho, if_pos rfl]
      · unfold fX8_readsOrder
        rw [ch_in hn h, Option.bind_some, ho, if_pos rfl]
    · have hgo : ∀ {p : Nat}, i < p → p ≤ n → (∀ pc, rsC sg (nI n) (nI p) (pd i) pc = rsC sg (nI n) (nI p) (pd i) pc) → ∃ (b : Int32) (j : Nat) (L T P : Int32), j ≤ n ∧ (b = 0 ∨ (b = 1 ∧ i < j ∧ fX8_isOrder L = 1)) ∧ ∀ pc tg' pc', ∃ L1 T1 P1 L2 T2 P2, rsC sg (nI n) (nI p) (pd i) pc = some (b, nI j, L1, T1, P1) ∧ fX8_readsOrder_b60 pd (nI n) (nI p) (pd i) tg' pc' = some (b, nI j, L2, T2, P2) ∧ (b = 1 → L1 = L ∧ L2 = L ∧ T1 = T ∧ T2 = T ∧ (L = 99 → P1 = P ∧ P2 = P)) := by
        intro p h1 h2 _
        obtain ⟨b, j, T, P, b1, b2, b3⟩ := rest_both hn hE h2 (pd i)
        refine ⟨b, j, pd i, T, P, b1, b2.imp id (fun q => ⟨q.1, by omega, ho⟩), fun pc tg' pc' => ?_⟩
        obtain ⟨T1, P1, T2, P2, c1, c2, c3⟩ := b3 pc tg' pc'
        exact ⟨pd i, T1, P1, pd i, T2, P2, c1, c2, fun q => ⟨rfl, rfl, c3 q⟩⟩
      by_cases h107 : pd i = 107
      · rcases skip_both hn hE (i := i + 1) h (K := 45) (by decide) (by decide) with ⟨s1, s2, s3⟩ | ⟨s2, s3⟩
        · refine ⟨1, i + 1 + 1, pd i, -6, 0, s1, Or.inr ⟨rfl, by omega, ho⟩, fun lt tg pc lt' tg' pc' => ⟨pd i, -6, pc, pd i, -6, pc', ?_, ?_, fun _ => ⟨rfl, rfl, rfl, rfl, fun q => absurd (h107.symm.trans q) (by decide)⟩⟩⟩
          · rw [readOrder_eq, hns, letter_eq, ho, if_neg n1, if_pos h107, nI_1, s2, Option.bind_some, if_neg n1]
          · unfold fX8_readsOrder
            rw [ch_in hn h, Option.bind_some, ho, if_neg n1, if_pos h107, nI_1, s3, Option.bind_some, if_neg n1]
        · obtain ⟨b, j, L, T, P, b1, b2, b3⟩ := hgo (p := i + 1) (by omega) h (fun _ => rfl)
          refine ⟨b, j, L, T, P, b1, b2, fun lt tg pc lt' tg' pc' => ?_⟩
          obtain ⟨L1, T1, P1, L2, T2, P2, c1, c2, c3⟩ := b3 pc tg' pc'
          refine ⟨L1, T1, P1, L2, T2, P2, ?_, ?_, c3⟩
          · rw [readOrder_eq, hns, letter_eq, ho, if_neg n1, if_pos h107, nI_1, s2, Option.bind_some, if_pos rfl]
            exact c1
          · unfold fX8_readsOrder
            rw [ch_in hn h, Option.bind_some, ho, if_neg n1, if_pos h107, nI_1, s3, Option.bind_some, if_pos rfl]
            exact c2
      · obtain ⟨b, j, L, T, P, b1, b2, b3⟩ := hgo (p := i + 1) (by omega) h (fun _ => rfl)
        refine ⟨b, j, L, T, P, b1, b2, fun lt tg pc lt' tg' pc' => ?_⟩
        obtain ⟨L1, T1, P1, L2, T2, P2, c1, c2, c3⟩ := b3 pc tg' pc'
        refine ⟨L1, T1, P1, L2, T2, P2, ?_, ?_, c3⟩
        · rw [readOrder_eq, hns, letter_eq, ho, if_neg n1, if_neg h107, nI_1]
          exact c1
        · unfold fX8_readsOrder
          rw [ch_in hn h, Option.bind_some, ho, if_neg n1, if_neg h107, nI_1]
          exact c2
  · have hin : i = n := by omega
    subst hin
    refine ⟨0, i, 0, 0, 0, hi, Or.inl rfl, fun lt tg pc lt' tg' pc' => ⟨0, tg, pc, -1, tg', pc', ?_, ?_, fun q => absurd q (by decide)⟩⟩
    · rw [readOrder_eq, ns_out hn, if_pos (show fX3_isLetter 0 = 0 by rfl)]
    · unfold fX8_readsOrder
      rw [ch_out hn, Option.bind_some, if_pos (show fX8_isOrder (-1) = 0 by rfl)]
end TEXT

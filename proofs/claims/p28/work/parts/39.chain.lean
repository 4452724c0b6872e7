/-! the way up from a key -/
def chn (par : Nat → Int32) : Nat → Int32 → List Nat
  | 0, _ => []
  | f + 1, p => if p < 0 then [] else p.toNatClampNeg :: chn par f (par p.toNatClampNeg)
def up (par : Nat → Int32) (p : Int32) : List Nat := chn par 20 p
def Up (nk : Nat) (p : Int32) : Prop := p = -6 ∨ ∃ j, j < nk ∧ p = nI j
theorem m6_neg : (-6 : Int32) < 0 := by decide
theorem chn_6 (par : Nat → Int32) (f : Nat) : chn par f (-6) = [] := by
  cases f with
  | zero => rfl
  | succ f => exact if_pos m6_neg
theorem chn_s {par : Nat → Int32} {f j : Nat} (hj : j < 2 ^ 31) : chn par (f + 1) (nI j) = j :: chn par f (par j) := by
  rw [chn, if_neg (nI_pos hj), nI_clamp hj]
section CHAIN
variable {nk : Nat} {par : Nat → Int32}
theorem up_6 : up par (-6) = [] := chn_6 par 20
theorem chn_fuel (hP : PT nk par) (hk : nk ≤ 20) : ∀ j, j < nk → ∀ f g, j < f → j < g → chn par f (nI j) = chn par g (nI j) := by
  intro j
  induction j using Nat.strongRecOn with
  | ind j ih =>
    intro hj f g hf hg
    obtain ⟨f, rfl⟩ : ∃ f', f = f' + 1 := ⟨f - 1, by omega⟩
    obtain ⟨g, rfl⟩ : ∃ g', g = g' + 1 := ⟨g - 1, by omega⟩
    rw [chn_s (by omega), chn_s (by omega)]
    rcases hP j hj with e | ⟨i, hi, e⟩
    · rw [e, chn_6, chn_6]
    · rw [e, ih i hi (by omega) f g (by omega) (by omega)]
theorem up_k (hP : PT nk par) (hk : nk ≤ 20) {j : Nat} (hj : j < nk) : up par (nI j) = j :: up par (par j) := by
  unfold up
  rw [chn_s (by omega)]
  rcases hP j hj with e | ⟨i, hi, e⟩
  · rw [e, chn_6, chn_6]
  · rw [e, chn_fuel hP hk i (by omega) 19 20 (by omega) (by omega)]
theorem PT_up (hP : PT nk par) {k : Nat} (hk : k < nk) : Up nk (par k) := by
  rcases hP k hk with e | ⟨j, hj, e⟩
  · exact Or.inl e
  · exact Or.inr ⟨j, by omega, e⟩
theorem up_ind {Q : Int32 → Prop} (hP : PT nk par) (h6 : Q (-6)) (hs : ∀ j, j < nk → Q (par j) → Q (nI j)) : ∀ p, Up nk p → Q p := by
  have key : ∀ j, j < nk → Q (nI j) := by
    intro j
    induction j using Nat.strongRecOn with
    | ind j ih =>
      intro hj
      refine hs j hj ?_
      rcases hP j hj with e | ⟨i, hi, e⟩
      · rw [e]; exact h6
      · rw [e]; exact ih i hi (by omega)
  intro p hp
  rcases hp with rfl | ⟨j, hj, rfl⟩
  · exact h6
  · exact key j hj
theorem up_le (hP : PT nk par) (hk : nk ≤ 20) : ∀ j, j < nk → ∀ i, i ∈ up par (nI j) → i ≤ j := by
  intro j
  induction j using Nat.strongRecOn with
  | ind j ih =>
    intro hj i hi
    rw [up_k hP hk hj] at hi
    rcases List.mem_cons.mp hi with rfl | h
    · exact Nat.le_refl _
    · rcases hP j hj with e | ⟨q, hq, e⟩
      · rw [e, up_6] at h; cases h
      · rw [e] at h
        have := ih q hq (by omega) i h
        omega
theorem up_par_lt (hP : PT nk par) (hk : nk ≤ 20) {j i : Nat} (hj : j < nk) (h : i ∈ up par (par j)) : i < j := by
  rcases hP j hj with e | ⟨q, hq, e⟩
  · rw [e, up_6] at h; cases h
  · rw [e] at h
    have := up_le hP hk q (by omega) i h
    omega
theorem up_nk (hP : PT nk par) (hk : nk ≤ 20) {p : Int32} (hp : Up nk p) {i : Nat} (h : i ∈ up par p) : i < nk := by
  rcases hp with rfl | ⟨j, hj, rfl⟩
  · rw [up_6] at h; cases h
  · have := up_le hP hk j hj i h
    omega
theorem up_len (hP : PT nk par) (hk : nk ≤ 20) : ∀ j, j < nk → (up par (nI j)).length ≤ j + 1 := by
  intro j
  induction j using Nat.strongRecOn with
  | ind j ih =>
    intro hj
    rw [up_k hP hk hj, List.length_cons]
    rcases hP j hj with e | ⟨q, hq, e⟩
    · rw [e, up_6]; simp
    · rw [e]
      have := ih q hq (by omega)
      omega
theorem up_len20 (hP : PT nk par) (hk : nk ≤ 20) {p : Int32} (hp : Up nk p) : (up par p).length ≤ 20 := by
  rcases hp with rfl | ⟨j, hj, rfl⟩
  · rw [up_6]; simp
  · have := up_len hP hk j hj
    omega
theorem up_sorted (hP : PT nk par) (hk : nk ≤ 20) : ∀ p, Up nk p → (up par p).Pairwise (fun a b => b < a) :=
  up_ind (Q := fun p => (up par p).Pairwise (fun a b => b < a)) hP (by rw [up_6]; exact List.Pairwise.nil) (fun j hj ih => by
    rw [up_k hP hk hj]
    exact List.pairwise_cons.mpr ⟨fun i hi => up_par_lt hP hk hj hi, ih⟩)
theorem up_trans (hP : PT nk par) (hk : nk ≤ 20) {a i : Nat} (ha : a ∈ up par (nI i)) : ∀ p, Up nk p → i ∈ up par p → a ∈ up par p :=
  up_ind (Q := fun p => i ∈ up par p → a ∈ up par p) hP (fun h => by rw [up_6] at h; cases h) (fun j hj ih h => by
    rw [up_k hP hk hj] at h
    rcases List.mem_cons.mp h with rfl | h
    · exact ha
    · rw [up_k hP hk hj]
      exact List.mem_cons_of_mem _ (ih h))
theorem up_live (hP : PT nk par) (hk : nk ≤ 20) {lk : Int32} (hc : ∀ k j, k < nk → j < nk → bt lk k = true → par k = nI j → bt lk j = true) : ∀ j, j < nk → bt lk j = true → ∀ i, i ∈ up par (nI j) → bt lk i = true := by
  intro j
  induction j using Nat.strongRecOn with
  | ind j ih =>
    intro hj hl i hi
    rw [up_k hP hk hj] at hi
    rcases List.mem_cons.mp hi with rfl | h
    · exact hl
    · rcases hP j hj with e | ⟨q, hq, e⟩
      · rw [e, up_6] at h; cases h
      · rw [e] at h
        exact ih q hq (by omega) (hc j q hj (by omega) hl e) i h
/-- above: a set; a count -/
theorem above_loop (hP : PT nk par) (hk : nk ≤ 20) : ∀ p, Up nk p → ∀ fuel i acc, (up par p).length + i ≤ 20 → 20 < fuel + i → ∃ m, fX5_above_b14 fuel par acc p (nI i) = some m ∧ ∀ j, j < 32 → bt m j = (bt acc j || decide (j ∈ up par p)) :=
  up_ind (Q := fun p => ∀ fuel i acc, (up par p).length + i ≤ 20 → 20 < fuel + i → ∃ m, fX5_above_b14 fuel par acc p (nI i) = some m ∧ ∀ j, j < 32 → bt m j = (bt acc j || decide (j ∈ up par p))) hP (fun fuel i acc h1 h2 => by
      obtain ⟨f, rfl⟩ : ∃ f, fuel = f + 1 := ⟨fuel - 1, by omega⟩
      refine ⟨acc, ?_, fun j hj => by rw [up_6]; simp⟩
      rw [fX5_above_b14]
      by_cases hi : i = 20
      · rw [if_pos (show (20 : Int32) ≤ nI i from nI_le (a := 20) (by omega) (by omega))]
      · rw [if_neg (show ¬ (20 : Int32) ≤ nI i from nI_ge (b := 20) (by omega) (by omega)), if_pos m6_neg])
    (fun q hq ih fuel i acc h1 h2 => by
      rw [up_k hP hk hq, List.length_cons] at h1
      obtain ⟨f, rfl⟩ : ∃ f, fuel = f + 1 := ⟨fuel - 1, by omega⟩
      obtain ⟨m, e1, e2⟩ := ih f (i + 1) (acc ||| fX7_setOf (nI q)) (by omega) (by omega)
      refine ⟨m, ?_, fun j hj => ?_⟩
      · rw [fX5_above_b14, if_neg (show ¬ (20 : Int32) ≤ nI i from nI_ge (b := 20) (by omega) (by omega)), if_neg (nI_pos (by omega)), rAt_nI (by omega) (by omega), nI_1]
        exact e1
      · rw [e2 j hj, bt_add (by omega) hj, up_k hP hk hq]
        by_cases hjq : j = q <;> simp [hjq])
theorem above_eq (hP : PT nk par) (hk : nk ≤ 20) {k : Nat} (hk2 : k < nk) : ∃ m, fX5_above par (nI k) = some m ∧ ∀ j, j < 32 → bt m j = decide (j ∈ up par (par k)) := by
  unfold fX5_above
  rw [rAt_nI (by omega) (by omega)]
  have hl : (up par (par k)).length + 0 ≤ 20 := by have := up_len20 hP hk (PT_up hP hk2); omega
  obtain ⟨m, e1, e2⟩ := above_loop hP hk (par k) (PT_up hP hk2) 6000 0 0 hl (by omega)
  exact ⟨m, e1, fun j hj => by rw [e2 j hj, b_0, Bool.false_or]⟩
theorem rabove_loop (hP : PT nk par) (hk : nk ≤ 20) {st : Nat → Int32} (hc : ∀ k, k < nk → st (4 + 4 * k) = par k) : ∀ p, Up nk p → ∀ fuel acc, (up par p).length < fuel → fX8_above_b9 fuel st (nI acc) p = some (nI (acc + (up par p).length)) :=
  up_ind (Q := fun p => ∀ fuel acc, (up par p).length < fuel → fX8_above_b9 fuel st (nI acc) p = some (nI (acc + (up par p).length))) hP (fun fuel acc h => by
      obtain ⟨f, rfl⟩ : ∃ f, fuel = f + 1 := ⟨fuel - 1, by omega⟩
      rw [fX8_above_b9, if_pos rfl, up_6]; rfl)
    (fun q hq ih fuel acc h => by
      rw [up_k hP hk hq, List.length_cons] at h ⊢
      obtain ⟨f, rfl⟩ : ∃ f, fuel = f + 1 := ⟨fuel - 1, by omega⟩
      rw [fX8_above_b9, if_neg (nI_ne6 (by omega)), key0 (by omega), Option.bind_some, hc q hq, nI_1, ih f (acc + 1) (by omega)]
      congr 2
      omega)
theorem rabove_eq (hP : PT nk par) (hk : nk ≤ 20) {st : Nat → Int32} (hc : ∀ k, k < nk → st (4 + 4 * k) = par k) {k : Nat} (hk2 : k < nk) : fX8_above st (nI k) = some (nI (up par (par k)).length) := by
  unfold fX8_above
  have hl := up_len20 hP hk (PT_up hP hk2)
  rw [key0 (by omega), Option.bind_some, hc k hk2]
  have := rabove_loop hP hk hc (par k) (PT_up hP hk2) 6000 0 (by omega)
  rw [Nat.zero_add] at this
  exact this
theorem under_loop (hP : PT nk par) (hk : nk ≤ 20) {st : Nat → Int32} (hc : ∀ k, k < nk → st (4 + 4 * k) = par k) {a : Nat} (ha : a < nk) : ∀ p, Up nk p → ∀ fuel, (up par p).length < fuel → fX8_isUnder_b2 fuel st (nI a) p = some (if a ∈ up par p then 1 else 0) :=
  up_ind (Q := fun p => ∀ fuel, (up par p).length < fuel → fX8_isUnder_b2 fuel st (nI a) p = some (if a ∈ up par p then 1 else 0)) hP (fun fuel h => by
      obtain ⟨f, rfl⟩ : ∃ f, fuel = f + 1 := ⟨fuel - 1, by omega⟩
      rw [fX8_isUnder_b2, if_pos rfl, up_6, if_neg (fun q => nI_ne6 (by omega) q.symm)]; rfl)
    (fun q hq ih fuel h => by
      rw [up_k hP hk hq, List.length_cons] at h
      obtain ⟨f, rfl⟩ : ∃ f, fuel = f + 1 := ⟨fuel - 1, by omega⟩
      rw [fX8_isUnder_b2, if_neg (nI_ne6 (by omega)), up_k hP hk hq]
      by_cases hqa : q = a
      · subst hqa
        rw [if_pos rfl, if_pos rfl, if_pos (List.mem_cons_self)]
      · rw [if_neg (fun e => hqa ((nI_eq (by omega) (by omega)).mp e)), key0 (by omega), Option.bind_some, hc q hq, ih f (by omega)]
        congr 1
        have : (a ∈ q :: up par (par q)) ↔ a ∈ up par (par q) := by
          rw [List.mem_cons]
          exact ⟨fun h => h.resolve_left (fun e => hqa e.symm), Or.inr⟩
        simp only [this])
theorem under_eq (hP : PT nk par) (hk : nk ≤ 20) {st : Nat → Int32} (hc : ∀ k, k < nk → st (4 + 4 * k) = par k) {a : Nat} (ha : a < nk) {p : Int32} (hp : Up nk p) : fX8_isUnder st p (nI a) = some (if a ∈ up par p then 1 else 0) := by
  unfold fX8_isUnder
  have := up_len20 hP hk hp
  exact under_loop hP hk hc ha p hp 6000 (by omega)
theorem higher_loop (hP : PT nk par) (hk : nk ≤ 20) {st : Nat → Int32} (hc : ∀ k, k < nk → st (4 + 4 * k) = par k) (n : Nat) (hn : n ≤ 20) : ∀ p, Up nk p → ∀ fuel i y, i ≤ n → n < i + fuel → (up par p)[n - i]? = some y → fX8_higher_b5 fuel st (nI n) p (nI i) = some (nI y) :=
  up_ind (Q := fun p => ∀ fuel i y, i ≤ n → n < i + fuel → (up par p)[n - i]? = some y → fX8_higher_b5 fuel st (nI n) p (nI i) = some (nI y)) hP (fun fuel i y h1 h2 h => by rw [up_6] at h; cases h)
    (fun q hq ih fuel i y h1 h2 h => by
      rw [up_k hP hk hq] at h
      obtain ⟨f, rfl⟩ : ∃ f, fuel = f + 1 := ⟨fuel - 1, by omega⟩
      rw [fX8_higher_b5]
      by_cases hi : n = i
      · subst hi
        rw [Nat.sub_self] at h
        rw [if_pos (nI_le (Nat.le_refl _) (by omega))]
        cases h; rfl
      · obtain ⟨d, hd⟩ : ∃ d, n - i = d + 1 := ⟨n - i - 1, by omega⟩
        rw [hd, List.getElem?_cons_succ] at h
        rw [if_neg (nI_ge (by omega) (by omega)), key0 (by omega), Option.bind_some, hc q hq, nI_1]
        exact ih f (i + 1) y (by omega) (by omega) (by rw [← h]; congr 1; omega))
theorem higher_eq (hP : PT nk par) (hk : nk ≤ 20) {st : Nat → Int32} (hc : ∀ k, k < nk → st (4 + 4 * k) = par k) {n y : Nat} (hn : n ≤ 20) {p : Int32} (hp : Up nk p) (h : (up par p)[n]? = some y) : fX8_higher st p (nI n) = some (nI y) := by
  unfold fX8_higher
  exact higher_loop hP hk hc n hn p hp 6000 0 y (Nat.zero_le _) (by omega) h
/-- all below a key -/
theorem below_eq (hP : PT nk par) (hk : nk ≤ 20) {a : Nat} (ha : a < nk) : ∃ m, fX5_withAllBelow (nI nk) par (nI a) = some m ∧ ∀ j, j < 32 → bt m j = (decide (j < nk) && decide (a ∈ up par (nI j))) := by
  have key : ∀ fuel i acc, i ≤ nk → nk < i + fuel → (∀ j, j < 32 → bt acc j = if j < i then decide (a ∈ up par (nI j)) else decide (j = a)) → ∃ m, fX5_withAllBelow_b7 fuel (nI nk) par acc (nI i) = some m ∧ ∀ j, j < 32 → bt m j = if j < nk then decide (a ∈ up par (nI j)) else decide (j = a) := by
    intro fuel
    induction fuel with
    | zero => intro i acc h1 h2; omega
    | succ fuel ih =>
      intro i acc h1 h2 h3
      rw [fX5_withAllBelow_b7]
      by_cases hi : i < nk
      · rw [if_neg (nI_ge hi (by omega)), rAt_nI (by omega) (by omega), nI_1]
        have hcase : (fX7_has acc (par i) = 0 ↔ ¬ a ∈ up par (par i)) := by
          rcases hP i hi with e | ⟨q, hq, e⟩
          · rw [e, has_m6, up_6]; simp
          · rw [e, has_nI (by omega), h3 q (by omega), if_pos hq]
            by_cases hm : a ∈ up par (nI q) <;> simp [hm]
        by_cases hm : a ∈ up par (par i)
        · rw [if_neg (fun q => (hcase.mp q) hm)]
          refine ih (i + 1) _ hi (by omega) (fun j hj => ?_)
          rw [bt_add (by omega) hj, h3 j hj]
          by_cases hji : j = i
          · subst hji
            rw [if_neg (Nat.lt_irrefl _), if_pos (Nat.lt_succ_self _), up_k hP hk hi]
            simp [hm]
          · by_cases hlt : j < i
            · rw [if_pos hlt, if_pos (by omega)]; simp [hji]
            · rw [if_neg hlt, if_neg (by omega)]; simp [hji]
        · rw [if_pos (hcase.mpr hm)]
          refine ih (i + 1) _ hi (by omega) (fun j hj => ?_)
          rw [h3 j hj]
          by_cases hji : j = i
          · subst hji
            rw [if_neg (Nat.lt_irrefl _), if_pos (Nat.lt_succ_self _), up_k hP hk hi]
            simp [hm, eq_comm]
          · by_cases hlt : j < i
            · rw [if_pos hlt, if_pos (by omega)]
            · rw [if_neg hlt, if_neg (by omega)]
      · have hin : i = nk := by omega
        subst hin
        rw [if_pos (nI_le (Nat.le_refl _) (by omega))]
        exact ⟨acc, rfl, h3⟩
  unfold fX5_withAllBelow
  obtain ⟨m, e1, e2⟩ := key 6000 0 (fX7_setOf (nI a)) (Nat.zero_le _) (by omega) (fun j hj => by rw [if_neg (Nat.not_lt_zero _), bt_setOf (by omega) hj])
  refine ⟨m, e1, fun j hj => ?_⟩
  rw [e2 j hj]
  by_cases h : j < nk
  · rw [if_pos h]; simp [h]
  · rw [if_neg h, decide_eq_false (show ¬ j = a by omega)]; simp [h]
end CHAIN

/-! the law's own small methods -/
theorem low_eq (x : Int32) {n : Nat} (h0 : 0 < n) (hn : n < 2 ^ 31) : ∃ r, r < n ∧ fL_low x (nI n) = some (nI r) := by
  obtain ⟨a, ha, e⟩ := pk_andE x (m := 2147483647) 31 (by decide)
  refine ⟨a % n, Nat.mod_lt _ h0, ?_⟩
  unfold fL_low
  rw [if_neg (nI_ne0 h0 hn), e, pk_rem ha h0 hn]
section LSTEPS
variable {nk nb nw : Nat} {st qv kev bov wrv : Nat → Int32} {lk lb : Int32} {par mak kob : Nat → Int32}
theorem hang_eq (h : LSt st nk nb nw qv kev bov wrv) (hR : RK3 st nk lk par mak) (hB : RB st nb lb kob) {k : Nat} (hk : k < 2 ^ 31) : fL_hang qv kev bov (nI k) = some (nI (hf nk nb lk lb par kob k)) := by
  obtain ⟨⟨⟨a0, a1, a2, a3⟩, ⟨b1, b2, b3⟩, n1, n2, n3⟩, hK, hZ, hLB, hW⟩ := h
  have s1 := sum_loop0 (n := nk) (fun fuel acc i => fL_hang_b6 fuel qv kev bov (nI k) acc (nI i)) (fun acc => fL_hang_b55 6000 qv kev bov (nI k) acc 0) (fun i => if onK nk lk par k i = true then 1 else 0)
    (fun fuel acc => by
      show fL_hang_b6 _ _ _ _ _ _ _ = _
      rw [fL_hang_b6, if_neg q1i, cl1, a1, if_pos (nI_le (Nat.le_refl _) (by omega))])
    (fun fuel acc i hi => by
      show fL_hang_b6 _ _ _ _ _ _ _ = fL_hang_b6 _ _ _ _ _ _ _
      obtain ⟨k0, k1, -⟩ := hK i hi
      obtain ⟨r0, r1, -⟩ := hR i hi
      rw [fL_hang_b6, if_neg q1i, cl1, a1, if_neg (nI_ge hi (by omega)), i4, i4p1, if_neg (nI_in (by omega) (by omega)), if_neg (nI_in (by omega) (by omega)), nI_clamp (by omega), nI_clamp (by omega), k0, k1, r0, r1, nI_1 i]
      by_cases hp : par i = nI k
      · rw [if_pos ((pm_eq hk).mpr hp)]
        by_cases hl : bt lk i = true
        · rw [if_pos (bit1_eq.mpr hl), if_pos (by simp [onK, hi, hp, hl]), nI_1 acc]
        · rw [if_neg (fun q => hl (bit1_eq.mp q)), if_neg (by simp [onK, hl])]
          exact congrArg (fun z => fL_hang_b6 fuel qv kev bov (nI k) z (nI (i + 1))) (nI_add acc 0)
      · rw [if_neg (fun q => hp ((pm_eq hk).mp q)), if_neg (by simp [onK, hp])]
        exact congrArg (fun z => fL_hang_b6 fuel qv kev bov (nI k) z (nI (i + 1))) (nI_add acc 0)) (fuel := 6000) (by omega)
  have s2 := sum_loop (n := nb) (fun fuel acc i => fL_hang_b55 fuel qv kev bov (nI k) acc (nI i)) (fun acc => some acc) (fun i => if onK nb lb kob k i = true then 1 else 0)
    (fun fuel acc => by
      show fL_hang_b55 _ _ _ _ _ _ _ = _
      rw [fL_hang_b55, if_neg q2i, cl2, a2, if_pos (nI_le (Nat.le_refl _) (by omega))])
    (fun fuel acc i hi => by
      show fL_hang_b55 _ _ _ _ _ _ _ = fL_hang_b55 _ _ _ _ _ _ _
      obtain ⟨k0, k1⟩ := hLB i hi
      obtain ⟨r0, r1⟩ := hB i hi
      rw [fL_hang_b55, if_neg q2i, cl2, a2, if_neg (nI_ge hi (by omega)), i2, i2p1, if_neg (nI_in (by omega) (by omega)), if_neg (nI_in (by omega) (by omega)), nI_clamp (by omega), nI_clamp (by omega), k0, k1, r0, r1, nI_1 i]
      by_cases hp : kob i = nI k
      · rw [if_pos hp]
        by_cases hl : bt lb i = true
        · rw [if_pos (bit1_eq.mpr hl), if_pos (by simp [onK, hi, hp, hl]), nI_1 acc]
        · rw [if_neg (fun q => hl (bit1_eq.mp q)), if_neg (by simp [onK, hl])]
          exact congrArg (fun z => fL_hang_b55 fuel qv kev bov (nI k) z (nI (i + 1))) (nI_add acc 0)
      · rw [if_neg hp, if_neg (by simp [onK, hp])]
        exact congrArg (fun z => fL_hang_b55 fuel qv kev bov (nI k) z (nI (i + 1))) (nI_add acc 0)) 6000 0 (fb_sm (fun i => if onK nk lk par k i = true then 1 else 0) nk) (Nat.zero_le _) (by omega)
  have e1 : fb_ct (onK nk lk par k) 20 = fb_ct (onK nk lk par k) nk := ct_tail (by omega) (fun j hj _ => by simp [onK, show ¬ j < nk by omega])
  have e2 : fb_ct (onK nb lb kob k) 20 = fb_ct (onK nb lb kob k) nb := ct_tail (by omega) (fun j hj _ => by simp [onK, show ¬ j < nb by omega])
  simp only [Nat.zero_add, Nat.sub_zero] at s2
  unfold fL_hang hf
  rw [e1, e2, ← ct_sm, ← ct_sm]
  exact s1.trans s2
theorem under_eqL (h : LKy nk st kev) (n1 : nk ≤ 6) (hP : PT nk par) (hc : ∀ k, k < nk → st (4 + 4 * k) = par k) {a : Nat} (ha : a < nk) {p : Int32} (hp : Up nk p) : fL_under kev (pm p) (nI a) = some (if a ∈ up par p then 1 else 0) := by
  have key : ∀ p, Up nk p → ∀ fuel, (up par p).length < fuel → fL_under_b2 fuel kev (nI a) (pm p) = some (if a ∈ up par p then 1 else 0) := by
    refine up_ind (Q := fun p => ∀ fuel, (up par p).length < fuel → fL_under_b2 fuel kev (nI a) (pm p) = some (if a ∈ up par p then 1 else 0)) hP ?_ ?_
    · intro fuel hf
      obtain ⟨f, rfl⟩ : ∃ f, fuel = f + 1 := ⟨fuel - 1, by omega⟩
      rw [fL_under_b2, pm_6, if_pos (by decide), up_6]
      rfl
    · intro j hj ih fuel hf
      obtain ⟨f, rfl⟩ : ∃ f, fuel = f + 1 := ⟨fuel - 1, by omega⟩
      have hup := up_k hP (by omega) hj
      rw [hup] at hf ⊢
      rw [fL_under_b2, pm_nI (by omega), if_neg (nI_pos (by omega))]
      by_cases hja : j = a
      · subst hja
        rw [if_pos rfl, if_pos List.mem_cons_self]
      · rw [if_neg (fun q => hja ((nI_eq (by omega) (by omega)).mp q)), i4, if_neg (nI_in (by omega) (by omega)), nI_clamp (by omega), (h j hj).1, hc j hj, ih f (by simp at hf; omega)]
        have : (a ∈ j :: up par (par j)) ↔ a ∈ up par (par j) := by
          rw [List.mem_cons]
          exact ⟨fun q => q.resolve_left (fun e => hja e.symm), Or.inr⟩
        rw [ifc this]
  unfold fL_under
  exact key p hp 6000 (by have := up_len20 hP (by omega : nk ≤ 20) hp; omega)
/-- which wraps the law burns -/
def PB (kev bov : Nat → Int32) (y x : Int32) : Prop := fL_key x = y ∨ fL_closer x = y ∨ (fL_key x = 7 ∧ ∃ b, b < 6 ∧ fL_which x = nI b ∧ bov (2 * b + 1) = 0) ∨ ∃ k, k < 6 ∧ fL_key x = nI k ∧ kev (4 * k + 1) = 0
def KF (x : Int32) : Prop := (fL_key x = 7 ∧ ∃ b, b < 6 ∧ fL_which x = nI b) ∨ ∃ k, k < 6 ∧ fL_key x = nI k
theorem burn_eqL (a3 : qv 3 = nI nw) (n3 : nw ≤ 64) (hF : ∀ w, w < nw → KF (wrv w)) (y : Int32) : ∃ wrv', fL_burn qv kev bov wrv y = some wrv' ∧ ∀ w, w < nw → (PB kev bov y (wrv w) ∧ wrv' w = wrv w &&& (-262145)) ∨ (¬ PB kev bov y (wrv w) ∧ wrv' w = wrv w) := by
  have ne7 : ∀ {k : Nat}, k < 6 → ¬ nI k = 7 := fun hk q => by
    have := (nI_eq (b := 7) (by omega) (by omega)).mp q
    omega
  have key : ∀ fuel i (f : Nat → Int32), i ≤ nw → nw < i + fuel → (∀ w, i ≤ w → w < nw → f w = wrv w) → (∀ w, w < i → (PB kev bov y (wrv w) ∧ f w = wrv w &&& (-262145)) ∨ (¬ PB kev bov y (wrv w) ∧ f w = wrv w)) →
      ∃ wrv', fL_burn_b3 fuel qv kev bov f y (nI i) = some wrv' ∧ ∀ w, w < nw → (PB kev bov y (wrv w) ∧ wrv' w = wrv w &&& (-262145)) ∨ (¬ PB kev bov y (wrv w) ∧ wrv' w = wrv w) := by
    intro fuel
    induction fuel with
    | zero => intro i f h1 h2; omega
    | succ fuel ih =>
      intro i f h1 h2 h3 h4
      rw [fL_burn_b3, if_neg q3i, cl3, a3]
      by_cases hi : i < nw
      · have yes : PB kev bov y (wrv i) → ∃ wrv', fL_burn_b3 fuel qv kev bov (upd f i (wrv i &&& (-262145))) y (nI (i + 1)) = some wrv' ∧ ∀ w, w < nw → (PB kev bov y (wrv w) ∧ wrv' w = wrv w &&& (-262145)) ∨ (¬ PB kev bov y (wrv w) ∧ wrv' w = wrv w) := fun hp =>
          ih (i + 1) _ hi (by omega) (fun w hw1 hw2 => by rw [pk_un (by omega)]; exact h3 w (by omega) hw2) (fun w hw => by
            by_cases hwi : w = i
            · subst hwi; rw [pk_us]; exact Or.inl ⟨hp, rfl⟩
            · rw [pk_un hwi]; exact h4 w (by omega))
        have no : ¬ PB kev bov y (wrv i) → ∃ wrv', fL_burn_b3 fuel qv kev bov f y (nI (i + 1)) = some wrv' ∧ ∀ w, w < nw → (PB kev bov y (wrv w) ∧ wrv' w = wrv w &&& (-262145)) ∨ (¬ PB kev bov y (wrv w) ∧ wrv' w = wrv w) := fun hp =>
          ih (i + 1) _ hi (by omega) (fun w hw1 hw2 => h3 w (by omega) hw2) (fun w hw => by
            by_cases hwi : w = i
            · subst hwi; exact Or.inr ⟨hp, h3 w (Nat.le_refl _) hi⟩
            · exact h4 w (by omega))
        have hc : ¬ (nI i < 0 ∨ 64 ≤ (nI i).toNatClampNeg) := nI_in (by omega) (by omega)
        rw [if_neg (nI_ge hi (by omega)), if_neg hc, nI_clamp (by omega), h3 i (Nat.le_refl _) hi, nI_1]
        have hc2 : ¬ (nI i < 0 ∨ 64 ≤ i) := fun q => q.elim (nI_pos (by omega)) (fun q => by omega)
        by_cases c1 : fL_key (wrv i) = y
        · rw [if_pos c1]
          first | rw [if_neg hc2] | rw [if_neg hc]
          exact yes (Or.inl c1)
        rw [if_neg c1]
        by_cases c2 : fL_closer (wrv i) = y
        · rw [if_pos c2]
          first | rw [if_neg hc2] | rw [if_neg hc]
          exact yes (Or.inr (Or.inl c2))
        rw [if_neg c2]
        rcases hF i hi with ⟨e7, b, hb, eb⟩ | ⟨k, hk, ek⟩
        · rw [if_pos e7, eb, i2, i2p1, if_neg (nI_in (by omega) (by omega)), nI_clamp (by omega)]
          by_cases c3 : bov (2 * b + 1) = 0
          · rw [if_pos c3]
            first | rw [if_neg hc2] | rw [if_neg hc]
            exact yes (Or.inr (Or.inr (Or.inl ⟨e7, b, hb, eb, c3⟩)))
          · rw [if_neg c3]
            refine no (fun q => ?_)
            rcases q with q | q | ⟨-, b', hb', eb', q⟩ | ⟨k, hk, ek, -⟩
            · exact c1 q
            · exact c2 q
            · have := (nI_eq (by omega) (by omega)).mp (eb.symm.trans eb')
              subst this; exact c3 q
            · exact ne7 hk (ek.symm.trans e7)
        · rw [if_neg (fun q => ne7 hk (ek.symm.trans q)), ek, i4, i4p1, if_neg (nI_in (by omega) (by omega)), nI_clamp (by omega)]
          by_cases c3 : kev (4 * k + 1) = 0
          · rw [if_pos c3]
            first | rw [if_neg hc2] | rw [if_neg hc]
            exact yes (Or.inr (Or.inr (Or.inr ⟨k, hk, ek, c3⟩)))
          · rw [if_neg c3]
            refine no (fun q => ?_)
            rcases q with q | q | ⟨q, -⟩ | ⟨k', hk', ek', q⟩
            · exact c1 q
            · exact c2 q
            · exact ne7 hk (ek.symm.trans q)
            · have := (nI_eq (by omega) (by omega)).mp (ek.symm.trans ek')
              subst this; exact c3 q
      · have hin : i = nw := by omega
        subst hin
        rw [if_pos (nI_le (Nat.le_refl _) (by omega))]
        exact ⟨f, rfl, h4⟩
  unfold fL_burn
  exact key 6000 0 wrv (Nat.zero_le _) (by omega) (fun _ _ _ => rfl) (fun w hw => absurd hw (Nat.not_lt_zero _))
end LSTEPS

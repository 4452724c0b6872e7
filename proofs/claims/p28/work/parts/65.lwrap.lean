/-! all that hangs from a key is wrapped, in the law and in the row of numbers -/
section LWALL
variable {nk nb : Nat} {bov : Nat → Int32} {lk lb : Int32} {par mak kob : Nat → Int32}
theorem wallL_1 {k : Nat} (hk : k < nk) {n0 : Nat} (hroom : n0 + fb_ct (onK nk lk par k) 20 ≤ 64) (y5 : Int32) :
    ∀ fuel f1 f2 i nw st qv kev wrv, i + fuel = nk + 1 → i ≤ nk → nk < i + f1 → nk < i + f2 → nw = n0 + fb_ct (onK nk lk par k) i → LSt st nk nb nw qv kev bov wrv → RK3 st nk lk par mak → LMk nk st →
      ∃ st' qv' kev' wrv', fX8_wrapAllUnder_b2 f2 st (nI k) (nI i) = fX8_wrapAllUnder_b45 6000 st' (nI k) 0 ∧ fL_wrapAll_b8 f1 qv kev bov wrv (nI k) y5 (nI i) = fL_wrapAll_b65 6000 qv' kev' bov wrv' (nI k) y5 0 ∧
        LSt st' nk nb (n0 + fb_ct (onK nk lk par k) 20) qv' kev' bov wrv' ∧ Same3 nk nb st st' := by
  intro fuel
  induction fuel with
  | zero => intro f1 f2 i nw st qv kev wrv h1 h2; omega
  | succ fuel ih =>
    intro f1 f2 i nw st qv kev wrv h1 h2 h3 h4 hnw h hR hM
    obtain ⟨⟨⟨a0, a1, a2, a3⟩, ⟨b1, b2, b3⟩, n1, n2, n3⟩, hK, hZ, hLB, hW⟩ := id h
    obtain ⟨f1, rfl⟩ : ∃ f, f1 = f + 1 := ⟨f1 - 1, by omega⟩
    obtain ⟨f2, rfl⟩ : ∃ f, f2 = f + 1 := ⟨f2 - 1, by omega⟩
    by_cases hi : i < nk
    · obtain ⟨r0, r1, r2⟩ := hR i hi
      obtain ⟨k0, k1, k2, -⟩ := hK i hi
      rw [fL_wrapAll_b8, fX8_wrapAllUnder_b2, if_neg q1i, if_neg ix1, cl1, a1, b1, if_neg (nI_ge hi (by omega)), if_neg (nI_ge hi (by omega)), key1 (by omega), Option.bind_some, i4, i4p1, i4p2, if_neg (nI_in (by omega) (by omega)), if_neg (nI_in (by omega) (by omega)), if_neg (nI_in (by omega) (by omega)), nI_clamp (by omega), nI_clamp (by omega), nI_clamp (by omega), k0, k1, k2, r0, r1, nI_1 i]
      by_cases hp : onK nk lk par k i = true
      · have hp2 : par i = nI k ∧ bt lk i = true := by
          simp [onK] at hp; exact ⟨hp.1.2, hp.2⟩
        have hct : fb_ct (onK nk lk par k) (i + 1) = fb_ct (onK nk lk par k) i + 1 := by rw [fb_ct_succ, if_pos hp]
        have hmono := fb_ct_mono (onK nk lk par k) (m := i + 1) (n := 20) (by omega)
        obtain ⟨m, m1, m2⟩ := hM i hi
        obtain ⟨st', qv', kev', wrv', w1, w2, w3, w4⟩ := wrap_sim h (by omega) hk (hM k hk) (x := nI i) (X := i) (y := m) (Or.inl ⟨rfl, by omega⟩) m1
        have hS : Same3 nk nb st st' := same3_of n1 n2 hk w4
        rw [if_pos ((pm_eq (by omega)).mpr hp2.1), if_pos (bit1_eq.mpr hp2.2), if_pos (bit1_eq.mpr hp2.2), key0 (by omega), Option.bind_some, r0, if_pos hp2.1, m2, w2, Option.bind_some]
        unfold fX8_wrapKey
        rw [key2 (by omega), Option.bind_some, key0 (by omega), Option.bind_some, r0, hp2.1, m2, w1, Option.bind_some, Option.bind_some]
        dsimp only
        obtain ⟨s2, q2, e2, v2, g1, g2, g3, g4⟩ := ih f1 f2 (i + 1) (nw + 1) st' qv' kev' wrv' (by omega) hi (by omega) (by omega) (by rw [hct]; omega) w3 (RK3_same hR hS) (LM_same hM hS)
        exact ⟨s2, q2, e2, v2, g1, g2, g3, hS.trans g4⟩
      · have hct : fb_ct (onK nk lk par k) (i + 1) = fb_ct (onK nk lk par k) i := by rw [fb_ct_succ, if_neg hp]; rfl
        have hgo := ih f1 f2 (i + 1) nw st qv kev wrv (by omega) hi (by omega) (by omega) (by rw [hct]; exact hnw) h hR hM
        by_cases hl : bt lk i = true
        · have hpar : ¬ par i = nI k := fun e => hp (by simp [onK, hi, e, hl])
          rw [if_neg (fun q => hpar ((pm_eq (by omega)).mp q)), if_pos (bit1_eq.mpr hl), key0 (by omega), Option.bind_some, r0, if_neg hpar]
          exact hgo
        · rw [if_neg (c := (if bt lk i = true then (1 : Int32) else 0) = 1) (fun q => hl (bit1_eq.mp q))]
          rw [if_neg (c := (if bt lk i = true then (1 : Int32) else 0) = 1) (fun q => hl (bit1_eq.mp q))]
          by_cases hq : pm (par i) = nI k
          · rw [if_pos hq]; exact hgo
          · rw [if_neg hq]; exact hgo
    · have hin : i = nk := by omega
      subst hin
      have hct : fb_ct (onK i lk par k) 20 = fb_ct (onK i lk par k) i := ct_tail (by omega) (fun j hj _ => by simp [onK, show ¬ j < i by omega])
      rw [fL_wrapAll_b8, fX8_wrapAllUnder_b2, if_neg q1i, if_neg ix1, cl1, a1, b1, if_pos (nI_le (Nat.le_refl _) (by omega)), if_pos (nI_le (Nat.le_refl _) (by omega)), hct, ← hnw]
      exact ⟨st, qv, kev, wrv, rfl, rfl, h, Same3.rfl'⟩
theorem wallL_2 {k : Nat} (hk : k < nk) {n1' : Nat} (hroom : n1' + fb_ct (onK nb lb kob k) 20 ≤ 64) (y5 : Int32) :
    ∀ fuel f1 f2 i nw st qv kev wrv, i + fuel = nb + 1 → i ≤ nb → nb < i + f1 → nb < i + f2 → nw = n1' + fb_ct (onK nb lb kob k) i → LSt st nk nb nw qv kev bov wrv → RB st nb lb kob → LMk nk st →
      ∃ st' qv' kev' wrv', fX8_wrapAllUnder_b45 f2 st (nI k) (nI i) = some st' ∧ fL_wrapAll_b65 f1 qv kev bov wrv (nI k) y5 (nI i) = some (nI (n1' + fb_ct (onK nb lb kob k) 20) - y5, qv', kev', wrv') ∧
        LSt st' nk nb (n1' + fb_ct (onK nb lb kob k) 20) qv' kev' bov wrv' ∧ Same3 nk nb st st' := by
  intro fuel
  induction fuel with
  | zero => intro f1 f2 i nw st qv kev wrv h1 h2; omega
  | succ fuel ih =>
    intro f1 f2 i nw st qv kev wrv h1 h2 h3 h4 hnw h hR hM
    obtain ⟨⟨⟨a0, a1, a2, a3⟩, ⟨b1, b2, b3⟩, n1, n2, n3⟩, hK, hZ, hLB, hW⟩ := id h
    obtain ⟨f1, rfl⟩ : ∃ f, f1 = f + 1 := ⟨f1 - 1, by omega⟩
    obtain ⟨f2, rfl⟩ : ∃ f, f2 = f + 1 := ⟨f2 - 1, by omega⟩
    by_cases hi : i < nb
    · obtain ⟨r0, r1⟩ := hR i hi
      obtain ⟨k0, k1⟩ := hLB i hi
      rw [fL_wrapAll_b65, fX8_wrapAllUnder_b45, if_neg q2i, if_neg ix2, cl2, a2, b2, if_neg (nI_ge hi (by omega)), if_neg (nI_ge hi (by omega)), box1 (by omega), Option.bind_some, i2, i2p1, if_neg (nI_in (by omega) (by omega)), if_neg (nI_in (by omega) (by omega)), nI_clamp (by omega), nI_clamp (by omega), k0, k1, r0, r1, nI_1 i]
      by_cases hp : onK nb lb kob k i = true
      · have hp2 : kob i = nI k ∧ bt lb i = true := by
          simp [onK] at hp; exact ⟨hp.1.2, hp.2⟩
        have hct : fb_ct (onK nb lb kob k) (i + 1) = fb_ct (onK nb lb kob k) i + 1 := by rw [fb_ct_succ, if_pos hp]
        have hmono := fb_ct_mono (onK nb lb kob k) (m := i + 1) (n := 20) (by omega)
        obtain ⟨st', qv', kev', wrv', w1, w2, w3, w4⟩ := wrap_sim h (by omega) hk (hM k hk) (x := -6) (X := 7) (y := i) (Or.inr ⟨rfl, rfl⟩) (by omega)
        have w2' : fL_wrap qv kev wrv 7 (nI i) (nI k) = some (qv', kev', wrv') := w2
        have hS : Same3 nk nb st st' := same3_of n1 n2 hk w4
        rw [if_pos hp2.1, if_pos (bit1_eq.mpr hp2.2), if_pos (bit1_eq.mpr hp2.2), box0 (by omega), Option.bind_some, r0, if_pos hp2.1, w2', Option.bind_some]
        unfold fX8_wrapBox
        rw [box0 (by omega), Option.bind_some, r0, hp2.1, w1, Option.bind_some, Option.bind_some]
        dsimp only
        obtain ⟨s2, q2, e2, v2, g1, g2, g3, g4⟩ := ih f1 f2 (i + 1) (nw + 1) st' qv' kev' wrv' (by omega) hi (by omega) (by omega) (by rw [hct]; omega) w3 (RB_same hR hS) (LM_same hM hS)
        exact ⟨s2, q2, e2, v2, g1, g2, g3, hS.trans g4⟩
      · have hct : fb_ct (onK nb lb kob k) (i + 1) = fb_ct (onK nb lb kob k) i := by rw [fb_ct_succ, if_neg hp]; rfl
        have hgo := ih f1 f2 (i + 1) nw st qv kev wrv (by omega) hi (by omega) (by omega) (by rw [hct]; exact hnw) h hR hM
        by_cases hl : bt lb i = true
        · have hpar : ¬ kob i = nI k := fun e => hp (by simp [onK, hi, e, hl])
          rw [if_neg hpar, if_pos (bit1_eq.mpr hl), box0 (by omega), Option.bind_some, r0, if_neg hpar]
          exact hgo
        · rw [if_neg (c := (if bt lb i = true then (1 : Int32) else 0) = 1) (fun q => hl (bit1_eq.mp q))]
          rw [if_neg (c := (if bt lb i = true then (1 : Int32) else 0) = 1) (fun q => hl (bit1_eq.mp q))]
          by_cases hq : kob i = nI k
          · rw [if_pos hq]; exact hgo
          · rw [if_neg hq]; exact hgo
    · have hin : i = nb := by omega
      subst hin
      have hct : fb_ct (onK i lb kob k) 20 = fb_ct (onK i lb kob k) i := ct_tail (by omega) (fun j hj _ => by simp [onK, show ¬ j < i by omega])
      rw [fL_wrapAll_b65, fX8_wrapAllUnder_b45, if_neg q2i, if_neg q3i, if_neg ix2, cl2, cl3, a2, b2, a3, if_pos (nI_le (Nat.le_refl _) (by omega)), if_pos (nI_le (Nat.le_refl _) (by omega)), hct, ← hnw]
      exact ⟨st, qv, kev, wrv, rfl, rfl, h, Same3.rfl'⟩
theorem wrapAll_sim {nw : Nat} {st qv kev wrv : Nat → Int32} (h : LSt st nk nb nw qv kev bov wrv) (hR : RK3 st nk lk par mak) (hB : RB st nb lb kob) (hM : LMk nk st) {k : Nat} (hk : k < nk) (hroom : nw + hf nk nb lk lb par kob k ≤ 64) :
    ∃ st' qv' kev' wrv', fX8_wrapAllUnder st (nI k) = some st' ∧ fL_wrapAll qv kev bov wrv (nI k) = some (nI (hf nk nb lk lb par kob k), qv', kev', wrv') ∧ LSt st' nk nb (nw + hf nk nb lk lb par kob k) qv' kev' bov wrv' ∧ Same3 nk nb st st' := by
  obtain ⟨⟨⟨a0, a1, a2, a3⟩, ⟨b1, b2, b3⟩, n1, n2, n3⟩, -⟩ := id h
  unfold hf at hroom ⊢
  obtain ⟨s1, q1, e1, v1, g1, g2, g3, g4⟩ := wallL_1 (lk := lk) (par := par) (mak := mak) hk (n0 := nw) (by omega) (nI nw) (nk + 1) 6000 6000 0 nw st qv kev wrv (by omega) (Nat.zero_le _) (by omega) (by omega) rfl h hR hM
  obtain ⟨s2, q2, e2, v2, k1, k2, k3, k4⟩ := wallL_2 (lb := lb) (kob := kob) hk (n1' := nw + fb_ct (onK nk lk par k) 20) (by omega) (nI nw) (nb + 1) 6000 6000 0 _ s1 q1 e1 v1 (by omega) (Nat.zero_le _) (by omega) (by omega) rfl g3 (RB_same hB g4) (LM_same hM g4)
  rw [Nat.add_assoc] at k2 k3
  refine ⟨s2, q2, e2, v2, ?_, ?_, k3, g4.trans k4⟩
  · unfold fX8_wrapAllUnder
    exact g1.trans k1
  · unfold fL_wrapAll
    have e : nI (nw + (fb_ct (onK nk lk par k) 20 + fb_ct (onK nb lb kob k) 20)) - nI nw = nI (fb_ct (onK nk lk par k) 20 + fb_ct (onK nb lb kob k) 20) := by
      rw [pk_sub (by omega)]
      congr 1
      omega
    rw [e] at k2
    rw [if_neg q3i, cl3, a3]
    exact g2.trans k2
/-- the way that the law finds the next key to wrap under -/
theorem find_next {nw : Nat} {st kev : Nat → Int32} (hK : LKy nk st kev) (n1 : nk ≤ 6) (hP : PT nk par) (hc : ∀ k, k < nk → st (4 + 4 * k) = par k) {y : Nat} (y6 : Int32) {E : List Nat} (hE : (E = [] ∧ y6 = -1) ∨ ∃ z E', E = z :: E' ∧ y6 = nI z) (hEs : ∀ z, z ∈ E → z < y)
    (K : (Nat → Int32) → (Nat → Int32) → (Nat → Int32) → (Nat → Int32) → Int32 → Int32 → Int32 → Option (Int32 × (Nat → Int32) × (Nat → Int32) × (Nat → Int32))) (qv wrv : Nat → Int32) (y0 y5 : Int32) :
    ∀ (D : List Nat) (cur : Nat) (fuel : Nat), cur < nk → up par (nI cur) = D ++ (y :: E) → D.length < fuel →
      fL_anew_b65 K fuel qv kev bov wrv y0 y5 y6 (nI cur) = (fL_wrapAll qv kev bov wrv (nI y)).bind fun q3 => K q3.2.1 q3.2.2.1 bov q3.2.2.2 y0 (y5 + q3.1) (nI y) := by
  intro D
  induction D with
  | nil =>
    intro cur fuel hcur hup hf
    obtain ⟨f, rfl⟩ : ∃ f, fuel = f + 1 := ⟨fuel - 1, by omega⟩
    rw [up_k hP (by omega) hcur, List.nil_append] at hup
    obtain ⟨hcy, hup2⟩ := List.cons.inj hup
    clear hup
    subst hcy
    rw [fL_anew_b65, i4, if_neg (nI_in (by omega) (by omega)), nI_clamp (by omega), (hK cur hcur).1, hc cur hcur]
    have : pm (par cur) = y6 := by
      rcases hP cur hcur with e | ⟨j, hj, e⟩
      · rw [e, up_6] at hup2
        rcases hE with ⟨-, e6⟩ | ⟨z, E', ez, -⟩
        · rw [e, pm_6, e6]
        · rw [ez] at hup2; cases hup2
      · rw [e, up_k hP (by omega) (by omega : j < nk)] at hup2
        rcases hE with ⟨e0, -⟩ | ⟨z, E', ez, e6⟩
        · rw [e0] at hup2; cases hup2
        · rw [ez] at hup2
          obtain ⟨hjz, -⟩ := List.cons.inj hup2
          rw [e, pm_nI (by omega), e6, hjz]
    rw [if_pos this]
  | cons d D ih =>
    intro cur fuel hcur hup hf
    obtain ⟨f, rfl⟩ : ∃ f, fuel = f + 1 := ⟨fuel - 1, by omega⟩
    rw [up_k hP (by omega) hcur, List.cons_append] at hup
    obtain ⟨hcd, hup2⟩ := List.cons.inj hup
    clear hup
    subst hcd
    have hy : y ∈ up par (par cur) := by rw [hup2]; simp
    rcases hP cur hcur with e | ⟨j, hj, e⟩
    · rw [e, up_6] at hy; cases hy
    · have hjk : j < nk := by omega
      rw [e] at hup2 hy
      have hyj : y ≤ j := up_le hP (by omega) j hjk y hy
      have hne : ¬ nI j = y6 := fun q => by
        rcases hE with ⟨-, e6⟩ | ⟨z, E', ez, e6⟩
        · exact m1_ne (by omega) (q.trans e6)
        · have := (nI_eq (by omega) (by have := hEs z (by rw [ez]; simp); omega)).mp (q.trans e6)
          have := hEs z (by rw [ez]; simp)
          omega
      rw [fL_anew_b65, i4, if_neg (nI_in (by omega) (by omega)), if_neg (nI_in (by omega) (by omega)), if_neg (nI_in (by omega) (by omega)), nI_clamp (by omega), (hK cur hcur).1, hc cur hcur, e, pm_nI (by omega), if_neg hne, if_neg (nI_pos (by omega))]
      exact ih j f hjk hup2 (by simp at hf; omega)
/-- from the root down to the key, each one's wraps -/
theorem chain_sim {p0 : Nat} (hp0 : p0 < nk) : ∀ (Q D : List Nat), up par (nI p0) = Q.reverse ++ D → Q.Pairwise (fun a b => a < b) → (∀ z, z ∈ D → ∀ y, y ∈ Q → z < y) → ∀ f1 f2 nw st qv kev wrv y5 y6, Q.length < f1 → Q.length < f2 →
    ((D = [] ∧ y6 = -1) ∨ ∃ z D', D = z :: D' ∧ y6 = nI z) → PT nk par → LSt st nk nb nw qv kev bov wrv → RK3 st nk lk par mak → RB st nb lb kob → LMk nk st → nw + (Q.map (hf nk nb lk lb par kob)).sum ≤ 64 →
    ∃ st' qv' kev' wrv', fX8_makesAboveAnew_b43 f2 st (nI p0) (nI Q.length + (-1)) = some st' ∧ fL_anew_b56 f1 qv kev bov wrv (nI p0) (nI y5) y6 = some (nI (y5 + (Q.map (hf nk nb lk lb par kob)).sum), qv', kev', wrv') ∧
      LSt st' nk nb (nw + (Q.map (hf nk nb lk lb par kob)).sum) qv' kev' bov wrv' := by
  intro Q
  induction Q with
  | nil =>
    intro D hL hs hzD f1 f2 nw st qv kev wrv y5 y6 hf1 hf2 hD hPT h hR hB hM hroom
    have n1 := h.1.2.2.1
    obtain ⟨f1, rfl⟩ : ∃ f, f1 = f + 1 := ⟨f1 - 1, by omega⟩
    obtain ⟨f2, rfl⟩ : ∃ f, f2 = f + 1 := ⟨f2 - 1, by omega⟩
    rw [List.reverse_nil, List.nil_append] at hL
    have hup := up_k hPT (by omega) hp0
    rw [hL] at hup
    rcases hD with ⟨e, -⟩ | ⟨z, D', e, e6⟩
    · rw [e] at hup; cases hup
    · rw [e] at hup
      obtain ⟨rfl, -⟩ := List.cons.inj hup
      refine ⟨st, qv, kev, wrv, ?_, ?_, h⟩
      · rw [fX8_makesAboveAnew_b43, List.length_nil]
        exact if_pos (by decide)
      · rw [fL_anew_b56, if_pos e6]
        rfl
  | cons y Q ih =>
    intro D hL hs hzD f1 f2 nw st qv kev wrv y5 y6 hf1 hf2 hD hPT h hR hB hM hroom
    have n1 := h.1.2.2.1
    obtain ⟨s1, s2⟩ := List.pairwise_cons.mp hs
    have hL2 : up par (nI p0) = Q.reverse ++ (y :: D) := by rw [hL]; simp
    have hUp : Up nk (nI p0) := Or.inr ⟨p0, hp0, rfl⟩
    have hyk : y < nk := up_nk hPT (by omega) hUp (by rw [hL]; simp)
    obtain ⟨f1, rfl⟩ : ∃ f, f1 = f + 1 := ⟨f1 - 1, by omega⟩
    obtain ⟨f2, rfl⟩ : ∃ f, f2 = f + 1 := ⟨f2 - 1, by omega⟩
    rw [List.map_cons, List.sum_cons] at hroom ⊢
    rw [List.length_cons] at hf1 hf2 ⊢
    have hlen : (up par (nI p0)).length ≤ 20 := up_len20 hPT (by omega) hUp
    have hql : Q.length < (up par (nI p0)).length := by rw [hL2]; simp
    have hhi : fX8_higher st (nI p0) (nI Q.length) = some (nI y) := higher_eq hPT (by omega) (fun k hk => (hR k hk).1) (by omega) hUp (by
      rw [hL2, List.getElem?_append_right (by simp)]
      simp)
    obtain ⟨st1, q1, e1, v1, k1, k2, k3, k4⟩ := wrapAll_sim h hR hB hM hyk (by omega)
    have hne : ¬ y6 = nI p0 := fun q => by
      rcases hD with ⟨-, e6⟩ | ⟨z, D', e, e6⟩
      · exact m1_ne (by omega) (q.symm.trans e6)
      · have hzm : z ∈ up par (nI p0) := by rw [hL, e]; simp
        have hz : z < y := hzD z (by rw [e]; simp) y List.mem_cons_self
        have := (nI_eq (by omega) (by omega)).mp (q.symm.trans e6)
        have hy0 : y ≤ p0 := up_le hPT (by omega) p0 hp0 y (by rw [hL]; simp)
        omega
    have hfind := find_next (nw := nw) (bov := bov) h.2.1 n1 hPT (fun k hk => (hR k hk).1) (y := y) y6 (E := D) hD (fun z hz => hzD z hz y List.mem_cons_self) (fL_anew_b56 f1) qv wrv (nI p0) (nI y5) Q.reverse p0 6000 hp0 hL2 (by rw [List.length_reverse]; omega)
    obtain ⟨st', q', e', v', g1, g2, g3⟩ := ih (y :: D) hL2 s2 (fun z hz w hw => by
      rcases List.mem_cons.mp hz with rfl | hz
      · exact s1 w hw
      · exact hzD z hz w (List.mem_cons_of_mem _ hw)) f1 f2 _ st1 q1 e1 v1 (y5 + hf nk nb lk lb par kob y) (nI y) (by omega) (by omega) (Or.inr ⟨y, D, rfl, rfl⟩) hPT k3 (RK3_same hR k4) (RB_same hB k4) (LM_same hM k4) (by omega)
    refine ⟨st', q', e', v', ?_, ?_, by rw [← Nat.add_assoc]; exact g3⟩
    · rw [nI_m1, fX8_makesAboveAnew_b43, if_neg (nI_pos (by omega)), hhi, Option.bind_some, k1, Option.bind_some]
      exact g1
    · rw [fL_anew_b56, if_neg hne, hfind, k2, Option.bind_some]
      dsimp only
      rw [nI_add, ← Nat.add_assoc]
      exact g2
end LWALL

/-! a throwing away, in the law -/
section ACTC
variable {n t L : Nat} {xs : Nat → Int32} {k42 : K42} {nk nb nw : Nat} {qv kev bov wrv : Nat → Int32} {r : RS} {o : (Nat → Int32) × (Nat → Int32)} {R : CRt} {mw ke bo lk lb lk' lb' nu : Int32} {par mak wea kob hek hew clo clm sta : Nat → Int32}
theorem under_L (n1 : nk ≤ 6) (hP : PT nk par) {kev : Nat → Int32} (hc : ∀ k, k < nk → kev (4 * k) = pm (par k)) {a : Nat} (ha : a < nk) {p : Int32} (hp : Up nk p) : fL_under kev (pm p) (nI a) = some (if a ∈ up par p then 1 else 0) := by
  refine under_eqL (st := fun j => if j % 4 = 0 then par ((j - 4) / 4) else kev (j - 4)) (nk := nk) (fun k hk => ?_) n1 hP (fun k hk => ?_) ha hp
  · try dsimp only
    rw [if_pos (show (4 + 4 * k) % 4 = 0 by omega), if_neg (show ¬ (4 + 4 * k + 1) % 4 = 0 by omega), if_neg (show ¬ (4 + 4 * k + 2) % 4 = 0 by omega), if_neg (show ¬ (4 + 4 * k + 3) % 4 = 0 by omega), show (4 + 4 * k - 4) / 4 = k by omega, show 4 + 4 * k + 1 - 4 = 4 * k + 1 by omega, show 4 + 4 * k + 2 - 4 = 4 * k + 2 by omega, show 4 + 4 * k + 3 - 4 = 4 * k + 3 by omega]
    exact ⟨hc k hk, rfl, rfl, rfl⟩
  · try dsimp only
    rw [if_pos (show (4 + 4 * k) % 4 = 0 by omega), show (4 + 4 * k - 4) / 4 = k by omega]
theorem sums12 (n1 : nk ≤ 6) (n2 : nb ≤ 6) (hP : PT nk par) {p : Int32} (hp : Up nk p) {tK tB : Int32} (hcw : ∀ k, k ∈ up par p → cw nk nb lk lb tK tB par kob k = rc nk nb lk lb par kob p k) : ((up par p).map (rc nk nb lk lb par kob p)).sum ≤ 12 ∧ ((∀ i, i < 32 → bt lk' i = (bt lk i && !bt tK i)) → (∀ i, i < 32 → bt lb' i = (bt lb i && !bt tB i)) → ((up par p).map (hf nk nb lk' lb' par kob)).sum = ((up par p).map (rc nk nb lk lb par kob p)).sum) := by
  have e := sum_L (nk := nk) (nb := nb) (lk := lk) (lb := lb) (par := par) (kob := kob) (up par p) (fun i hi => by have := up_nk hP (by omega) hp hi; omega) (up_sorted hP (by omega) p hp) tK tB
  have em : (up par p).map (cw nk nb lk lb tK tB par kob) = (up par p).map (rc nk nb lk lb par kob p) := List.map_congr_left hcw
  rw [em] at e
  refine ⟨?_, fun hlk hlb => ?_⟩
  · rw [← e, ct_tail (n := nk) (m := 20) (p := inL nk lk tK par (up par p)) (by omega) (fun j hj _ => by simp [inL, show ¬ j < nk by omega]), ct_tail (n := nb) (m := 20) (p := inL nb lb tB kob (up par p)) (by omega) (fun j hj _ => by simp [inL, show ¬ j < nb by omega])]
    have h1 := fb_ct_le (inL nk lk tK par (up par p)) nk
    have h2 := fb_ct_le (inL nb lb tB kob (up par p)) nb
    omega
  · rw [← em]
    exact congrArg List.sum (List.map_congr_left (fun k _ => hf_cw hlk hlb k))
theorem thr_loop (h : Rel n nk nb nw r.1 mw ke bo lk lb par mak wea kob nu hek hew clo clm sta) (hL : LSt r.1 nk nb nw qv kev bov wrv) {m : Nat} (hm : m ≤ 30) (h0 : r.1 0 = nI m) {p : Int32} (opv : Nat → Int64) (cs : CS) (y7 y8 y10 y13 y14 : Int32) : ∀ cur, Up nk cur → ∀ fuel acc, (up par cur).length < fuel → (∀ k, k ∈ up par cur → nI k = p → 1 ≤ hf nk nb lk lb par kob k) →
    fL_law_b932 L xs k42 fuel qv kev bov wrv opv cs y7 y8 y10 y13 y14 (pm p) 0 (nI acc) (pm cur) = fL_law_b999 L xs k42 qv kev bov wrv opv cs y7 y8 y10 y13 y14 (pm p) 0 (nI (acc + ((up par cur).map (rc nk nb lk lb par kob p)).sum)) ∧
    (((∀ k, k ∈ up par cur → rc nk nb lk lb par kob p k ≤ m) ∧ fL_law_b932 L xs k42 fuel qv kev bov wrv opv cs y7 y8 y10 y13 y14 (pm p) 1 (nI acc) (pm cur) = fL_law_b999 L xs k42 qv kev bov wrv opv cs y7 y8 y10 y13 y14 (pm p) 1 (nI (acc + ((up par cur).map (rc nk nb lk lb par kob p)).sum))) ∨
     ((¬ ∀ k, k ∈ up par cur → rc nk nb lk lb par kob p k ≤ m) ∧ fL_law_b932 L xs k42 fuel qv kev bov wrv opv cs y7 y8 y10 y13 y14 (pm p) 1 (nI acc) (pm cur) = fL_law_b999 L xs k42 qv kev bov wrv opv cs y7 y8 y10 y13 y14 (pm p) 0 (nI (acc + ((up par cur).map (rc nk nb lk lb par kob p)).sum)))) := by
  obtain ⟨⟨e1, e2, e3⟩, ⟨t1, t2, t3, t4, t5, t6, t7, t8⟩, ⟨c1, ⟨m0, m1, m2, em⟩, c3⟩, hW, hH, hU, ⟨s0, s1, s2, s3⟩, hK, hBx, hR⟩ := id h
  obtain ⟨⟨⟨a0, a1, a2, a3⟩, ⟨b1, b2, b3⟩, n1, n2, n3⟩, hLK, hZ, hLB, hLW⟩ := id hL
  refine up_ind (Q := fun cur => ∀ fuel acc, (up par cur).length < fuel → (∀ k, k ∈ up par cur → nI k = p → 1 ≤ hf nk nb lk lb par kob k) →
    fL_law_b932 L xs k42 fuel qv kev bov wrv opv cs y7 y8 y10 y13 y14 (pm p) 0 (nI acc) (pm cur) = fL_law_b999 L xs k42 qv kev bov wrv opv cs y7 y8 y10 y13 y14 (pm p) 0 (nI (acc + ((up par cur).map (rc nk nb lk lb par kob p)).sum)) ∧
    (((∀ k, k ∈ up par cur → rc nk nb lk lb par kob p k ≤ m) ∧ fL_law_b932 L xs k42 fuel qv kev bov wrv opv cs y7 y8 y10 y13 y14 (pm p) 1 (nI acc) (pm cur) = fL_law_b999 L xs k42 qv kev bov wrv opv cs y7 y8 y10 y13 y14 (pm p) 1 (nI (acc + ((up par cur).map (rc nk nb lk lb par kob p)).sum))) ∨
     ((¬ ∀ k, k ∈ up par cur → rc nk nb lk lb par kob p k ≤ m) ∧ fL_law_b932 L xs k42 fuel qv kev bov wrv opv cs y7 y8 y10 y13 y14 (pm p) 1 (nI acc) (pm cur) = fL_law_b999 L xs k42 qv kev bov wrv opv cs y7 y8 y10 y13 y14 (pm p) 0 (nI (acc + ((up par cur).map (rc nk nb lk lb par kob p)).sum))))) t3 ?_ ?_
  · intro fuel acc hf2 hone
    obtain ⟨f, rfl⟩ : ∃ f, fuel = f + 1 := ⟨fuel - 1, by omega⟩
    have hneg : pm (-6) < 0 := by decide
    rw [fL_law_b932, if_pos hneg, fL_law_b932, if_pos hneg, up_6]
    exact ⟨rfl, Or.inl ⟨fun k hk2 => (by cases hk2), rfl⟩⟩
  · intro q hq ih fuel acc hf2 hone
    rw [up_k t3 t1 hq] at hf2 hone ⊢
    rw [List.length_cons] at hf2
    obtain ⟨f, rfl⟩ : ∃ f, fuel = f + 1 := ⟨fuel - 1, by omega⟩
    have hsub := rc_sub (hone q List.mem_cons_self)
    have hle := rc_le (nk := nk) (nb := nb) (lk := lk) (lb := lb) (par := par) (kob := kob) (p := p) q
    obtain ⟨g1, g2⟩ := ih f (acc + rc nk nb lk lb par kob p q) (by omega) (fun k hk2 => hone k (List.mem_cons_of_mem _ hk2))
    have hin : ¬ (nI (4 * q) < 0 ∨ 24 ≤ (nI (4 * q)).toNatClampNeg) := nI_in (by omega) (by omega)
    obtain ⟨l0, -⟩ := hLK q hq
    have step : ∀ y16 : Int32, fL_law_b932 L xs k42 (f + 1) qv kev bov wrv opv cs y7 y8 y10 y13 y14 (pm p) y16 (nI acc) (pm (nI q)) = if y16 = 0 then fL_law_b932 L xs k42 f qv kev bov wrv opv cs y7 y8 y10 y13 y14 (pm p) 0 (nI (acc + rc nk nb lk lb par kob p q)) (pm (par q)) else (if nI m < nI (rc nk nb lk lb par kob p q) then fL_law_b932 L xs k42 f qv kev bov wrv opv cs y7 y8 y10 y13 y14 (pm p) 0 (nI (acc + rc nk nb lk lb par kob p q)) (pm (par q)) else fL_law_b932 L xs k42 f qv kev bov wrv opv cs y7 y8 y10 y13 y14 (pm p) 1 (nI (acc + rc nk nb lk lb par kob p q)) (pm (par q))) := fun y16 => by
      have b958 : ∀ z1 : Int32, nI (hf nk nb lk lb par kob q) - z1 = nI (rc nk nb lk lb par kob p q) → fL_law_b958 L xs k42 (fL_law_b932 L xs k42 f) qv kev bov wrv opv cs y7 y8 y10 y13 y14 (pm p) y16 (nI acc) (nI q) (nI (hf nk nb lk lb par kob q)) z1 = if y16 = 0 then fL_law_b932 L xs k42 f qv kev bov wrv opv cs y7 y8 y10 y13 y14 (pm p) 0 (nI (acc + rc nk nb lk lb par kob p q)) (pm (par q)) else (if nI m < nI (rc nk nb lk lb par kob p q) then fL_law_b932 L xs k42 f qv kev bov wrv opv cs y7 y8 y10 y13 y14 (pm p) 0 (nI (acc + rc nk nb lk lb par kob p q)) (pm (par q)) else fL_law_b932 L xs k42 f qv kev bov wrv opv cs y7 y8 y10 y13 y14 (pm p) 1 (nI (acc + rc nk nb lk lb par kob p q)) (pm (par q))) := fun z1 hz => by
        unfold fL_law_b958
        rw [i4, if_neg hin, if_neg hin, nI_clamp (by omega), l0, (hK q hq).1, if_neg q0i, cl0, a0, h0, hz, nI_add]
      rw [pm_nI (by omega), fL_law_b932, if_neg (nI_pos (by omega)), hang_eq hL (RK3_of hK) hBx (by omega), Option.bind_some]
      by_cases hqp : nI q = p
      · rw [if_pos hqp] at hsub
        rw [if_pos ((pm_eq (by omega)).mpr hqp.symm).symm]
        exact b958 1 hsub
      · rw [if_neg hqp] at hsub
        rw [if_neg (fun w => hqp ((pm_eq (by omega)).mp w.symm).symm)]
        exact b958 0 hsub
    rw [step 0, step 1, if_pos rfl, if_neg n10]
    have hs2 : ((q :: up par (par q)).map (rc nk nb lk lb par kob p)).sum = rc nk nb lk lb par kob p q + ((up par (par q)).map (rc nk nb lk lb par kob p)).sum := by rw [List.map_cons, List.sum_cons]
    rw [hs2, ← Nat.add_assoc]
    refine ⟨g1, ?_⟩
    by_cases hc : rc nk nb lk lb par kob p q ≤ m
    · rw [if_neg (nI_nlt hc (by omega))]
      rcases g2 with ⟨r1, r2⟩ | ⟨r1, r2⟩
      · refine Or.inl ⟨fun k hk2 => ?_, r2⟩
        rcases List.mem_cons.mp hk2 with rfl | h
        · exact hc
        · exact r1 k h
      · exact Or.inr ⟨fun q => r1 (fun k hk2 => q k (List.mem_cons_of_mem _ hk2)), r2⟩
    · rw [if_pos (nI_lt (by omega) (by omega))]
      exact Or.inr ⟨fun r => hc (r q List.mem_cons_self), g1⟩
theorem flagBL {a : Nat} (ha : a < nk) (n1 : nk ≤ 6) (n2 : nb ≤ 6) (hP : PT nk par) (hKB : KB nk nb kob) (a2 : qv 2 = nI nb) (hkc : ∀ k, k < nk → kev (4 * k) = pm (par k)) (opv : Nat → Int64) (cs : CS) (y7 y8 y14 y15 y17 : Int32) : ∀ fuel i bov, i ≤ nb → nb < i + fuel → (∀ b, b < nb → bov (2 * b) = kob b) →
    ∃ bov', fL_law_b1083 L xs k42 fuel qv kev bov wrv opv cs y7 y8 (nI a) 1 y14 y15 y17 (nI i) = fL_law_b1138 L xs k42 qv kev bov' wrv opv cs y7 y8 (nI a) 1 y15 y17 ∧ (∀ j, (∀ b, b < nb → j ≠ 2 * b + 1) → bov' j = bov j) ∧ (∀ b, b < i → bov' (2 * b + 1) = bov (2 * b + 1)) ∧ ∀ b, i ≤ b → b < nb → bov' (2 * b + 1) = if a ∈ up par (kob b) then 0 else bov (2 * b + 1) := by
  intro fuel
  induction fuel with
  | zero => intro i s h1 h2; omega
  | succ fuel ih =>
    intro i s h1 h2 hcb
    rw [fL_law_b1083, if_neg q2i, cl2, a2]
    by_cases hi : i < nb
    · obtain ⟨j0, hj0, ej0⟩ := hKB i hi
      have hu1 := under_L n1 hP hkc ha (p := kob i) (Or.inr ⟨j0, hj0, ej0⟩)
      rw [show pm (kob i) = kob i by rw [ej0, pm_nI (by omega)]] at hu1
      have hin : ¬ (nI (2 * i) < 0 ∨ 12 ≤ (nI (2 * i)).toNatClampNeg) := nI_in (by omega) (by omega)
      have hin1 : ¬ (nI (2 * i + 1) < 0 ∨ 12 ≤ (nI (2 * i + 1)).toNatClampNeg) := nI_in (by omega) (by omega)
      rw [if_neg (nI_ge hi (by omega)), if_neg n10, i2, i2p1, if_neg hin, nI_clamp (by omega), hcb i hi, hu1, Option.bind_some, nI_1]
      by_cases hu : a ∈ up par (kob i)
      · rw [if_pos hu, if_neg n10, if_neg hin1, nI_clamp (by omega)]
        obtain ⟨s', e1, e2, e3, e4⟩ := ih (i + 1) (upd s (2 * i + 1) 0) hi (by omega) (fun b hb2 => by rw [pk_un (by omega)]; exact hcb b hb2)
        refine ⟨s', e1, fun j hj => by rw [e2 j hj, pk_un (hj i hi)], fun b hb2 => by rw [e3 b (by omega), pk_un (by omega)], fun b hb1 hb2 => ?_⟩
        by_cases hbi : b = i
        · subst hbi
          rw [e3 b (Nat.lt_succ_self _), pk_us, if_pos hu]
        · rw [e4 b (by omega) hb2, pk_un (by omega)]
      · rw [if_neg hu, if_pos rfl]
        obtain ⟨s', e1, e2, e3, e4⟩ := ih (i + 1) s hi (by omega) hcb
        refine ⟨s', e1, e2, fun b hb2 => e3 b (by omega), fun b hb1 hb2 => ?_⟩
        by_cases hbi : b = i
        · subst hbi
          rw [e3 b (Nat.lt_succ_self _), if_neg hu]
        · exact e4 b (by omega) hb2
    · have hin : i = nb := by omega
      subst hin
      rw [if_pos (nI_le (Nat.le_refl _) (by omega))]
      exact ⟨s, rfl, fun j _ => rfl, fun b _ => rfl, fun b h1 h2 => by omega⟩
theorem flagKL {a : Nat} (ha : a < nk) (n1 : nk ≤ 6) (hP : PT nk par) (a1 : qv 1 = nI nk) (opv : Nat → Int64) (cs : CS) (y7 y8 y15 y17 : Int32) : ∀ fuel i kev, i ≤ nk → nk < i + fuel → (∀ k, k < nk → kev (4 * k) = pm (par k)) →
    ∃ kev', fL_law_b1141 L xs k42 fuel qv kev bov wrv opv cs y7 y8 (nI a) 1 y15 y17 (nI i) = fL_law_b1180 L xs k42 qv kev' bov wrv opv cs y7 y8 y15 y17 ∧ (∀ j, (∀ b, b < nk → j ≠ 4 * b + 1) → kev' j = kev j) ∧ (∀ b, b < i → kev' (4 * b + 1) = kev (4 * b + 1)) ∧ ∀ b, i ≤ b → b < nk → kev' (4 * b + 1) = if a ∈ up par (nI b) then 0 else kev (4 * b + 1) := by
  intro fuel
  induction fuel with
  | zero => intro i s h1 h2; omega
  | succ fuel ih =>
    intro i s h1 h2 hkc
    rw [fL_law_b1141, if_neg q1i, cl1, a1]
    by_cases hi : i < nk
    · have hu1 := under_L n1 hP hkc ha (p := nI i) (Or.inr ⟨i, hi, rfl⟩)
      rw [pm_nI (by omega)] at hu1
      have hin1 : ¬ (nI (4 * i + 1) < 0 ∨ 24 ≤ (nI (4 * i + 1)).toNatClampNeg) := nI_in (by omega) (by omega)
      rw [if_neg (nI_ge hi (by omega)), if_neg n10, hu1, Option.bind_some, i4, i4p1, nI_1]
      by_cases hu : a ∈ up par (nI i)
      · rw [if_pos hu, if_neg n10, if_neg hin1, nI_clamp (by omega)]
        obtain ⟨s', e1, e2, e3, e4⟩ := ih (i + 1) (upd s (4 * i + 1) 0) hi (by omega) (fun k hk2 => by rw [pk_un (by omega)]; exact hkc k hk2)
        refine ⟨s', e1, fun j hj => by rw [e2 j hj, pk_un (hj i hi)], fun b hb2 => by rw [e3 b (by omega), pk_un (by omega)], fun b hb1 hb2 => ?_⟩
        by_cases hbi : b = i
        · subst hbi
          rw [e3 b (Nat.lt_succ_self _), pk_us, if_pos hu]
        · rw [e4 b (by omega) hb2, pk_un (by omega)]
      · rw [if_neg hu, if_pos rfl]
        obtain ⟨s', e1, e2, e3, e4⟩ := ih (i + 1) s hi (by omega) hkc
        refine ⟨s', e1, e2, fun b hb2 => e3 b (by omega), fun b hb1 hb2 => ?_⟩
        by_cases hbi : b = i
        · subst hbi
          rw [e3 b (Nat.lt_succ_self _), if_neg hu]
        · exact e4 b (by omega) hb2
    · have hin : i = nk := by omega
      subst hin
      rw [if_pos (nI_le (Nat.le_refl _) (by omega))]
      exact ⟨s, rfl, fun j _ => rfl, fun b _ => rfl, fun b h1 h2 => by omega⟩
theorem flagBB {b0 : Nat} (hb0 : b0 < nb) (n2 : nb ≤ 6) (a2 : qv 2 = nI nb) (opv : Nat → Int64) (cs : CS) (y7 y8 y10 y15 y17 : Int32) : ∀ fuel i bov, i ≤ nb → nb < i + fuel →
    fL_law_b1083 L xs k42 fuel qv kev bov wrv opv cs y7 y8 y10 0 (nI b0) y15 y17 (nI i) = fL_law_b1138 L xs k42 qv kev (if i ≤ b0 then upd bov (2 * b0 + 1) 0 else bov) wrv opv cs y7 y8 y10 0 y15 y17 := by
  intro fuel
  induction fuel with
  | zero => intro i s h1 h2; omega
  | succ fuel ih =>
    intro i s h1 h2
    rw [fL_law_b1083, if_neg q2i, cl2, a2]
    by_cases hi : i < nb
    · have hin1 : ¬ (nI (2 * i + 1) < 0 ∨ 12 ≤ (nI (2 * i + 1)).toNatClampNeg) := nI_in (by omega) (by omega)
      rw [if_neg (nI_ge hi (by omega)), if_pos rfl, i2, i2p1, nI_1]
      by_cases hib : i = b0
      · subst hib
        rw [if_pos rfl, if_neg hin1, nI_clamp (by omega), ih (i + 1) (upd s (2 * i + 1) 0) hi (by omega), if_neg (show ¬ i + 1 ≤ i by omega), if_pos (Nat.le_refl i)]
      · rw [if_neg (fun q => hib ((nI_eq (by omega) (by omega)).mp q)), ih (i + 1) s hi (by omega)]
        by_cases hlt : i + 1 ≤ b0
        · rw [if_pos hlt, if_pos (show i ≤ b0 by omega)]
        · rw [if_neg hlt, if_neg (show ¬ i ≤ b0 by omega)]
    · have hin : i = nb := by omega
      subst hin
      rw [if_pos (nI_le (Nat.le_refl _) (by omega)), if_neg (show ¬ i ≤ b0 by omega)]
theorem live_key (h : Rel n nk nb nw r.1 mw ke bo lk lb par mak wea kob nu hek hew clo clm sta) {k : Nat} (hk : k < nk) (hl : bt lk k = true) : fX8_isLiveKey r.1 (nI k) = some 1 := by
  obtain ⟨⟨e1, e2, e3⟩, ⟨t1, t2, t3, t4, t5, t6, t7, t8⟩, -, -, -, -, ⟨s0, s1, s2, s3⟩, hK, hBx, hR⟩ := id h
  rcases liveKey_both t1 (s1.trans e1) t5 hK (nI k) with ⟨k', hk', ek, hl', g1, g2⟩ | ⟨g1, g2⟩
  · exact g2
  · unfold fX5_isLiveKey at g1
    rw [has_nI (by omega), if_pos hl] at g1
    exact absurd g1 (by decide)
theorem live_box (h : Rel n nk nb nw r.1 mw ke bo lk lb par mak wea kob nu hek hew clo clm sta) {b : Nat} (hb : b < nb) (hl : bt lb b = true) : fX8_isLiveBox r.1 (nI b) = some 1 := by
  obtain ⟨⟨e1, e2, e3⟩, ⟨t1, t2, t3, t4, t5, t6, t7, t8⟩, -, -, -, -, ⟨s0, s1, s2, s3⟩, hK, hBx, hR⟩ := id h
  rcases liveBox_both t2 (s2.trans e2) t6 hBx (nI b) with ⟨k', hk', ek, hl', g1, g2⟩ | ⟨g1, g2⟩
  · exact g2
  · unfold fX5_isLiveBox at g1
    rw [has_nI (by omega), if_pos hl] at g1
    exact absurd g1 (by decide)
theorem makes_key (h : Rel n nk nb nw r.1 mw ke bo lk lb par mak wea kob nu hek hew clo clm sta) {k : Nat} (hk : k < nk) (hl : bt lk k = true) {v : Int32} (hv : fX8_throwMakes r.1 (par k) = some v) : sX7_throwingMakes ((mw, ke, bo, lk, lb, par, mak, wea, kob, nu, hek, hew, clo, clm, sta), o, R) 0 (nI k) = some (v, ((mw, ke, bo, lk, lb, par, mak, wea, kob, nu, hek, hew, clo, clm, sta), o, R)) := by
  obtain ⟨v', g1, g2⟩ := throwing_both h 0 (nI k)
  obtain ⟨⟨e1, e2, e3⟩, ⟨t1, t2, t3, t4, t5, t6, t7, t8⟩, -, -, -, -, ⟨s0, s1, s2, s3⟩, hK, hBx, hR⟩ := id h
  unfold fX8_throwingMakes at g2
  rw [if_neg (show ¬ fX8_within 0 0 1 = 0 by decide), if_pos rfl, live_key h hk hl, Option.bind_some, if_neg n10, if_pos rfl, key0 (by omega), Option.bind_some, (hK k hk).1, hv, Option.bind_some] at g2
  have := Option.some.inj g2
  subst this
  unfold sX7_throwingMakes
  have g1' : fX7_throwingMakes ((mw, ke, bo, lk, lb, par, mak, wea, kob, nu, hek, hew, clo, clm, sta), o, R).1.1 ((mw, ke, bo, lk, lb, par, mak, wea, kob, nu, hek, hew, clo, clm, sta), o, R).1.2.1 ((mw, ke, bo, lk, lb, par, mak, wea, kob, nu, hek, hew, clo, clm, sta), o, R).1.2.2.1 ((mw, ke, bo, lk, lb, par, mak, wea, kob, nu, hek, hew, clo, clm, sta), o, R).1.2.2.2.1 ((mw, ke, bo, lk, lb, par, mak, wea, kob, nu, hek, hew, clo, clm, sta), o, R).1.2.2.2.2.1 ((mw, ke, bo, lk, lb, par, mak, wea, kob, nu, hek, hew, clo, clm, sta), o, R).1.2.2.2.2.2.1 ((mw, ke, bo, lk, lb, par, mak, wea, kob, nu, hek, hew, clo, clm, sta), o, R).1.2.2.2.2.2.2.2.2.1 0 (nI k) = some v := g1
  rw [g1', Option.bind_some]
theorem makes_box (h : Rel n nk nb nw r.1 mw ke bo lk lb par mak wea kob nu hek hew clo clm sta) {b : Nat} (hb : b < nb) (hl : bt lb b = true) {v : Int32} (hv : fX8_throwMakes r.1 (kob b) = some v) : sX7_throwingMakes ((mw, ke, bo, lk, lb, par, mak, wea, kob, nu, hek, hew, clo, clm, sta), o, R) 1 (nI b) = some (v, ((mw, ke, bo, lk, lb, par, mak, wea, kob, nu, hek, hew, clo, clm, sta), o, R)) := by
  obtain ⟨v', g1, g2⟩ := throwing_both h 1 (nI b)
  obtain ⟨⟨e1, e2, e3⟩, ⟨t1, t2, t3, t4, t5, t6, t7, t8⟩, -, -, -, -, ⟨s0, s1, s2, s3⟩, hK, hBx, hR⟩ := id h
  unfold fX8_throwingMakes at g2
  rw [if_neg (show ¬ fX8_within 1 0 1 = 0 by decide), if_neg n10, live_box h hb hl, Option.bind_some, if_neg n10, if_neg n10, box0 (by omega), Option.bind_some, (hBx b hb).1, hv, Option.bind_some] at g2
  have := Option.some.inj g2
  subst this
  unfold sX7_throwingMakes
  have g1' : fX7_throwingMakes ((mw, ke, bo, lk, lb, par, mak, wea, kob, nu, hek, hew, clo, clm, sta), o, R).1.1 ((mw, ke, bo, lk, lb, par, mak, wea, kob, nu, hek, hew, clo, clm, sta), o, R).1.2.1 ((mw, ke, bo, lk, lb, par, mak, wea, kob, nu, hek, hew, clo, clm, sta), o, R).1.2.2.1 ((mw, ke, bo, lk, lb, par, mak, wea, kob, nu, hek, hew, clo, clm, sta), o, R).1.2.2.2.1 ((mw, ke, bo, lk, lb, par, mak, wea, kob, nu, hek, hew, clo, clm, sta), o, R).1.2.2.2.2.1 ((mw, ke, bo, lk, lb, par, mak, wea, kob, nu, hek, hew, clo, clm, sta), o, R).1.2.2.2.2.2.1 ((mw, ke, bo, lk, lb, par, mak, wea, kob, nu, hek, hew, clo, clm, sta), o, R).1.2.2.2.2.2.2.2.2.1 1 (nI b) = some v := g1
  rw [g1', Option.bind_some]
theorem why_tk (h : Rel n nk nb nw r.1 mw ke bo lk lb par mak wea kob nu hek hew clo clm sta) {k : Nat} (hk : k < nk) (hl : bt lk k = true) {v : Int32} (hv : fX8_whyNotThrown r.1 (par k) = some v) : fX8_whyKeyNotThrown r.1 (nI k) = some v := by
  obtain ⟨⟨e1, e2, e3⟩, ⟨t1, t2, t3, t4, t5, t6, t7, t8⟩, -, -, -, -, ⟨s0, s1, s2, s3⟩, hK, hBx, hR⟩ := id h
  unfold fX8_whyKeyNotThrown
  rw [live_key h hk hl, Option.bind_some, if_neg n10, key0 (by omega), Option.bind_some, (hK k hk).1, hv, Option.bind_some]
theorem why_tb (h : Rel n nk nb nw r.1 mw ke bo lk lb par mak wea kob nu hek hew clo clm sta) {b : Nat} (hb : b < nb) (hl : bt lb b = true) {v : Int32} (hv : fX8_whyNotThrown r.1 (kob b) = some v) : fX8_whyBoxNotThrown r.1 (nI b) = some v := by
  obtain ⟨⟨e1, e2, e3⟩, ⟨t1, t2, t3, t4, t5, t6, t7, t8⟩, -, -, -, -, ⟨s0, s1, s2, s3⟩, hK, hBx, hR⟩ := id h
  unfold fX8_whyBoxNotThrown
  rw [live_box h hb hl, Option.bind_some, if_neg n10, box0 (by omega), Option.bind_some, (hBx b hb).1, hv, Option.bind_some]
theorem act_throwK (hI : Inv0 n ((mw, ke, bo, lk, lb, par, mak, wea, kob, nu, hek, hew, clo, clm, sta), o, R) r) (h : Rel n nk nb nw r.1 mw ke bo lk lb par mak wea kob nu hek hew clo clm sta) (hL : LSt r.1 nk nb nw qv kev bov wrv) (hn : n ≤ 3 * t) (ht : t < 18) (hgo : Go k42 t) (hw50 : nw ≤ 50) {a : Nat} (ha : a < nk) (hl : bt lk a = true) (opv : Nat → Int64) (x8 y14 : Int32) : fL_law_b899 L xs k42 qv kev bov wrv opv ((mw, ke, bo, lk, lb, par, mak, wea, kob, nu, hek, hew, clo, clm, sta), o, R) (nI t) x8 (nI a) 1 y14 = some 1 := by
  obtain ⟨⟨e1, e2, e3⟩, ⟨t1, t2, t3, t4, t5, t6, t7, t8⟩, ⟨c1, ⟨m0, m1, m2, em⟩, c3⟩, hW, hH, hU, ⟨s0, s1, s2, s3⟩, hK, hBx, hR⟩ := id h
  obtain ⟨⟨⟨a0, a1, a2, a3⟩, ⟨b1, b2, b3⟩, n1, n2, n3⟩, hLK, hZ, hLB, hLW⟩ := id hL
  have ss1 := s1.trans e1
  have ss2 := s2.trans e2
  have ss3 := s3.trans e3
  have ss0 := s0.trans em
  have hp := PT_up t3 ha
  obtain ⟨tK, g3, g4⟩ := below_eq t3 t1 ha
  obtain ⟨tB, g5, g6⟩ := liveBoxesOn_eq (liveB := lb) (kob := kob) t2 tK
  have hTB : ∀ b j, b < nb → j < nk → kob b = nI j → (bt tB b = true ↔ (a ∈ up par (nI j) ∧ bt lb b = true)) := fun b j hb hj e => by
    rw [g6 b (by omega), e, hs_nI (by omega), g4 j (by omega)]
    simp [hb, hj]
  have hone : ∀ k, k ∈ up par (par a) → nI k = par a → 1 ≤ hf nk nb lk lb par kob k := fun k _ e => hone_key ha t1 hl e
  have hcw : ∀ k, k ∈ up par (par a) → cw nk nb lk lb tK tB par kob k = rc nk nb lk lb par kob (par a) k := fun k hk => cw_key ha t1 hl (fun j hj e => by
      rw [g4 j (by omega)]
      simp only [hj, decide_true, Bool.true_and, decide_eq_true_eq]
      exact below_iff t3 t1 ha hk hj e)
    (fun b hb e => by
      have hkn := up_nk t3 t1 hp hk
      rcases Bool.eq_false_or_eq_true (bt tB b) with q | q
      · exact absurd ((hTB b k hb hkn e).mp q).1 (not_above t3 t1 ha hk)
      · exact q)
  have hlk : ∀ i, i < 32 → bt (lk &&& (tK ^^^ (-1))) i = (bt lk i && !bt tK i) := fun i hi => by rw [b_and, b_not tK hi]
  have hlb : ∀ i, i < 32 → bt (lb &&& (tB ^^^ (-1))) i = (bt lb i && !bt tB i) := fun i hi => by rw [b_and, b_not tB hi]
  obtain ⟨h12, hsum⟩ := sums12 (lk' := lk &&& (tK ^^^ (-1))) (lb' := lb &&& (tB ^^^ (-1))) n1 n2 t3 hp hcw
  have hsum := hsum hlk hlb
  obtain ⟨-, y2, y3⟩ := whyThrown_eq t1 t2 c1 ss1 ss2 ss3 hK hBx t3 m2 ss0 hp hone
  have hroom : nw + ((up par (par a)).map (rc nk nb lk lb par kob (par a))).sum ≤ 120 := by omega
  have hT := throwMakes_eq t1 t2 ss1 ss2 hK hBx t3 m2 ss0 hp hone
  have agr := step_throwKey (by omega) hI (nI a)
  have hin : ¬ (nI (4 * a) < 0 ∨ 24 ≤ (nI (4 * a)).toNatClampNeg) := nI_in (by omega) (by omega)
  obtain ⟨-, lp⟩ := thr_loop (L := L) (xs := xs) (k42 := k42) h hL m2 ss0 (p := par a) opv ((mw, ke, bo, lk, lb, par, mak, wea, kob, nu, hek, hew, clo, clm, sta), o, R) (nI t) x8 (nI a) 1 y14 (par a) hp 6000 0 (by have := up_len20 t3 t1 hp; omega) hone
  rw [Nat.zero_add, show nI 0 = 0 from rfl] at lp
  unfold fL_law_b899
  rw [if_neg n10, i4, if_neg hin, nI_clamp (by omega), (hLK a ha).1, (hK a ha).1]
  unfold fL_law_b922
  rcases lp with ⟨q1, q2⟩ | ⟨q1, q2⟩
  · have hmk : fX8_throwMakes r.1 (par a) = some (nI ((up par (par a)).map (rc nk nb lk lb par kob (par a))).sum) := by
      rcases hT with ⟨-, q⟩ | ⟨q, -⟩
      · exact q
      · exact absurd q1 q
    -- the reference's flags, the law's flags
    obtain ⟨sA, f1, f2, -, f4⟩ := flagB (y2 := nI ((up par (par a)).map (rc nk nb lk lb par kob (par a))).sum) ha t3 t1 t2 t4 6000 0 r.1 (Nat.zero_le _) (by omega) ss2 (fun k hk => (hK k hk).1) (fun b hb => (hBx b hb).1)
    obtain ⟨sB, k1, k2, -, k4⟩ := flagK (y2 := nI ((up par (par a)).map (rc nk nb lk lb par kob (par a))).sum) ha t3 t1 6000 0 sA (Nat.zero_le _) (by omega) (by rw [f2 1 (fun b _ => by omega)]; exact ss1) (fun k hk => by rw [f2 _ (fun b _ => by omega)]; exact (hK k hk).1)
    have f1' : fX8_keyThrown_b13 6000 r.1 (nI a) (nI ((up par (par a)).map (rc nk nb lk lb par kob (par a))).sum) 0 = fX8_keyThrown_b52 6000 sA (nI a) (nI ((up par (par a)).map (rc nk nb lk lb par kob (par a))).sum) 0 := f1
    have k1' : fX8_keyThrown_b52 6000 sA (nI a) (nI ((up par (par a)).map (rc nk nb lk lb par kob (par a))).sum) 0 = (fX8_makesAboveAnew sB (par a)).bind (fun q5 => some (nI ((up par (par a)).map (rc nk nb lk lb par kob (par a))).sum, q5)) := k1
    have hkc : ∀ k, k < nk → kev (4 * k) = pm (par k) := fun k hk => by rw [(hLK k hk).1, (hK k hk).1]
    have hbc : ∀ b, b < nb → bov (2 * b) = kob b := fun b hb => by rw [(hLB b hb).1, (hBx b hb).1]
    have flB := fun cs => flagBL (L := L) (xs := xs) (k42 := k42) (wrv := wrv) (qv := qv) ha n1 n2 t3 t4 a2 hkc opv cs (nI t) x8 y14 (pm (par a)) (nI ((up par (par a)).map (rc nk nb lk lb par kob (par a))).sum) 6000 0 bov (Nat.zero_le _) (by omega) hbc
    have flK := fun cs bov => flagKL (L := L) (xs := xs) (k42 := k42) (bov := bov) (wrv := wrv) (qv := qv) ha n1 t3 a1 opv cs (nI t) x8 (pm (par a)) (nI ((up par (par a)).map (rc nk nb lk lb par kob (par a))).sum) 6000 0 kev (Nat.zero_le _) (by omega) hkc
    have rK : RK sB nk (lk &&& (tK ^^^ (-1))) par mak wea := fun k hk => by
      obtain ⟨r0, r1, r2, r3⟩ := hK k hk
      rw [k2 (4 + 4 * k) (fun b _ => by omega), f2 (4 + 4 * k) (fun b _ => by omega), k2 (4 + 4 * k + 2) (fun b _ => by omega), f2 (4 + 4 * k + 2) (fun b _ => by omega), k2 (4 + 4 * k + 3) (fun b _ => by omega), f2 (4 + 4 * k + 3) (fun b _ => by omega), k4 k (Nat.zero_le _) hk, f2 (4 + 4 * k + 1) (fun b _ => by omega), r1, b_and, b_not tK (by omega), g4 k (by omega)]
      refine ⟨r0, ?_, r2, r3⟩
      by_cases hu : a ∈ up par (nI k)
      · simp [hu, hk]
      · simp [hu]
    have rB : RB sB nb (lb &&& (tB ^^^ (-1))) kob := fun b hb => by
      obtain ⟨r0, r1⟩ := hBx b hb
      obtain ⟨j, hj, ej⟩ := t4 b hb
      rw [k2 (84 + 2 * b) (fun b _ => by omega), f2 (84 + 2 * b) (fun b _ => by omega), k2 (84 + 2 * b + 1) (fun b _ => by omega), f4 b (Nat.zero_le _) hb, r1, b_and, b_not tB (by omega)]
      refine ⟨r0, ?_⟩
      have hq := hTB b j hb hj ej
      rw [ej]
      by_cases hu : a ∈ up par (nI j)
      · rw [if_pos hu]
        rcases Bool.eq_false_or_eq_true (bt lb b) with hlb | hlb
        · rw [hlb, hq.mpr ⟨hu, hlb⟩]; rfl
        · rw [hlb]; rfl
      · rw [if_neg hu]
        have : bt tB b = false := Bool.eq_false_iff.mpr (fun q => hu (hq.mp q).1)
        rw [this]; simp
    -- both sides' rows and all above
    have main : ∀ (kev0 bov0 : Nat → Int32), (∀ j, (∀ b, b < nk → j ≠ 4 * b + 1) → kev0 j = kev j) → (∀ b, 0 ≤ b → b < nk → kev0 (4 * b + 1) = if a ∈ up par (nI b) then 0 else kev (4 * b + 1)) → (∀ j, (∀ b, b < nb → j ≠ 2 * b + 1) → bov0 j = bov j) → (∀ b, 0 ≤ b → b < nb → bov0 (2 * b + 1) = if a ∈ up par (kob b) then 0 else bov (2 * b + 1)) →
        ∃ st' qv' kev' wrv' w1, fX8_makesAboveAnew sB (par a) = some st' ∧ fL_burn qv kev0 bov0 wrv (-1) = some w1 ∧ fL_anew qv kev0 bov0 w1 (pm (par a)) = some (nI ((up par (par a)).map (rc nk nb lk lb par kob (par a))).sum, qv', kev', wrv') ∧ LSt st' nk nb (nw + ((up par (par a)).map (rc nk nb lk lb par kob (par a))).sum) qv' kev' bov0 wrv' := fun kev0 bov0 u1 u2 u3 u4 => by
      have z := above_sim h (by omega) hL hp (st0 := sB) (kev0 := kev0) (bov0 := bov0) (lk' := lk &&& (tK ^^^ (-1))) (lb' := lb &&& (tB ^^^ (-1)))
        (by rw [k2 0 (fun b _ => by omega), f2 0 (fun b _ => by omega)]) (by rw [k2 1 (fun b _ => by omega), f2 1 (fun b _ => by omega)]; exact ss1) (by rw [k2 2 (fun b _ => by omega), f2 2 (fun b _ => by omega)]; exact ss2) (by rw [k2 3 (fun b _ => by omega), f2 3 (fun b _ => by omega)]; exact ss3)
        rK rB (fun j hj => by rw [k2 j (fun b _ => by omega), f2 j (fun b _ => by omega)])
        (fun k hk => by
          obtain ⟨l0, l1, l2, l3⟩ := hLK k hk
          rw [u1 (4 * k) (fun b _ => by omega), u1 (4 * k + 2) (fun b _ => by omega), u1 (4 * k + 3) (fun b _ => by omega), u2 k (Nat.zero_le _) hk, k2 (4 + 4 * k) (fun b _ => by omega), f2 (4 + 4 * k) (fun b _ => by omega), k2 (4 + 4 * k + 2) (fun b _ => by omega), f2 (4 + 4 * k + 2) (fun b _ => by omega), k2 (4 + 4 * k + 3) (fun b _ => by omega), f2 (4 + 4 * k + 3) (fun b _ => by omega), k4 k (Nat.zero_le _) hk, f2 (4 + 4 * k + 1) (fun b _ => by omega), l1]
          exact ⟨l0, rfl, l2, l3⟩)
        (fun k hk hk6 => by
          rw [u1 (4 * k + 2) (fun b _ => by omega), u1 (4 * k + 3) (fun b _ => by omega)]
          exact hZ k hk hk6)
        (fun b hb => by
          obtain ⟨l0, l1⟩ := hLB b hb
          rw [u3 (2 * b) (fun b _ => by omega), u4 b (Nat.zero_le _) hb, k2 (84 + 2 * b) (fun b _ => by omega), f2 (84 + 2 * b) (fun b _ => by omega), k2 (84 + 2 * b + 1) (fun b _ => by omega), f4 b (Nat.zero_le _) hb, l1]
          exact ⟨l0, rfl⟩)
        (by rw [hsum]; omega)
      rw [hsum] at z
      exact z
    obtain ⟨bv0, -, p2, -, p4⟩ := flB ((mw, ke, bo, lk, lb, par, mak, wea, kob, nu, hek, hew, clo, clm, sta), o, R)
    obtain ⟨kv0, -, v2, -, v4⟩ := flK ((mw, ke, bo, lk, lb, par, mak, wea, kob, nu, hek, hew, clo, clm, sta), o, R) bv0
    obtain ⟨st', -, -, -, -, w1, -⟩ := main kv0 bv0 v2 v4 p2 p4
    have hkt : fX8_keyThrown r.1 (nI a) = some (nI ((up par (par a)).map (rc nk nb lk lb par kob (par a))).sum, st') := by
      unfold fX8_keyThrown
      rw [key0 (by omega), Option.bind_some, (hK a ha).1, hmk, Option.bind_some, f1', k1', w1]
      rfl
    obtain ⟨c', r', z1, z2, z3⟩ := yes_throwKey (nI a) agr (why_tk h ha hl (y2 hroom q1)) hkt
    rw [q2]
    unfold fL_law_b999
    rw [if_neg n10]
    unfold fL_law_b1010
    rw [if_neg n10, makes_key h ha hl hmk, Option.bind_some]
    unfold fL_law_b1027
    rw [if_neg n10, z1, Option.bind_some]
    unfold fL_law_b1047 fL_law_b1049
    rw [if_pos rfl, if_neg n10, if_pos rfl]
    unfold fL_law_b1075
    rw [if_neg n10]
    obtain ⟨bv1, p1, p2', -, p4'⟩ := flB c'
    obtain ⟨kv1, v1, v2', -, v4'⟩ := flK c' bv1
    obtain ⟨st'', qv', kev', wrv', w1', x1, x2, x3, x4⟩ := main kv1 bv1 v2' v4' p2' p4'
    have est : st'' = st' := Option.some.inj (x1.symm.trans w1)
    subst est
    refine p1.trans ?_
    unfold fL_law_b1138
    refine v1.trans ?_
    unfold fL_law_b1180
    rw [x2, Option.bind_some, x3, Option.bind_some, if_pos rfl]
    exact fin_1208 z2 (by rw [z3]; exact x4) (by omega) ht hgo opv x8
  · have hmk : fX8_throwMakes r.1 (par a) = some (-5) := by
      rcases hT with ⟨q, -⟩ | ⟨-, q⟩
      · exact absurd q q1
      · exact q
    obtain ⟨c', r', z1, z2, z3⟩ := no_throwKey (nI a) agr (why_tk h ha hl (y3 hroom q1)) (by decide)
    rw [q2]
    unfold fL_law_b999
    rw [if_neg n10]
    unfold fL_law_b1010
    rw [if_neg n10, makes_key h ha hl hmk, Option.bind_some]
    unfold fL_law_b1027
    rw [if_neg n10, z1, Option.bind_some]
    unfold fL_law_b1047 fL_law_b1049
    rw [if_pos rfl, if_pos rfl, if_pos rfl]
    unfold fL_law_b1075
    rw [if_pos rfl]
    exact fin_1208 z2 (by rw [z3]; exact hL) (by omega) ht hgo opv x8
theorem act_throwB (hI : Inv0 n ((mw, ke, bo, lk, lb, par, mak, wea, kob, nu, hek, hew, clo, clm, sta), o, R) r) (h : Rel n nk nb nw r.1 mw ke bo lk lb par mak wea kob nu hek hew clo clm sta) (hL : LSt r.1 nk nb nw qv kev bov wrv) (hn : n ≤ 3 * t) (ht : t < 18) (hgo : Go k42 t) (hw50 : nw ≤ 50) {b : Nat} (hb : b < nb) (hl : bt lb b = true) (opv : Nat → Int64) (x8 y10 : Int32) : fL_law_b899 L xs k42 qv kev bov wrv opv ((mw, ke, bo, lk, lb, par, mak, wea, kob, nu, hek, hew, clo, clm, sta), o, R) (nI t) x8 y10 0 (nI b) = some 1 := by
  obtain ⟨⟨e1, e2, e3⟩, ⟨t1, t2, t3, t4, t5, t6, t7, t8⟩, ⟨c1, ⟨m0, m1, m2, em⟩, c3⟩, hW, hH, hU, ⟨s0, s1, s2, s3⟩, hK, hBx, hR⟩ := id h
  obtain ⟨⟨⟨a0, a1, a2, a3⟩, ⟨b1, b2, b3⟩, n1, n2, n3⟩, hLK, hZ, hLB, hLW⟩ := id hL
  have ss1 := s1.trans e1
  have ss2 := s2.trans e2
  have ss3 := s3.trans e3
  have ss0 := s0.trans em
  obtain ⟨j0, hj0, ej0⟩ := t4 b hb
  have hp : Up nk (kob b) := Or.inr ⟨j0, hj0, ej0⟩
  have epm : pm (kob b) = kob b := by rw [ej0, pm_nI (by omega)]
  have hone : ∀ k, k ∈ up par (kob b) → nI k = kob b → 1 ≤ hf nk nb lk lb par kob k := fun k _ e => hone_box hb t2 hl e
  have hcw : ∀ k, k ∈ up par (kob b) → cw nk nb lk lb 0 (fX7_setOf (nI b)) par kob k = rc nk nb lk lb par kob (kob b) k := fun k hk => cw_box hb t2 hl (fun j hj e => b_0 j) (fun j hj e => by
    rw [bt_setOf (by omega) (by omega), decide_eq_true_eq])
  have hlk : ∀ i, i < 32 → bt lk i = (bt lk i && !bt 0 i) := fun i hi => by rw [b_0]; simp
  have hlb : ∀ i, i < 32 → bt (lb &&& (fX7_setOf (nI b) ^^^ (-1))) i = (bt lb i && !bt (fX7_setOf (nI b)) i) := fun i hi => by rw [b_and, b_not _ hi]
  obtain ⟨h12, hsum⟩ := sums12 (lk' := lk) (lb' := lb &&& (fX7_setOf (nI b) ^^^ (-1))) n1 n2 t3 hp hcw
  have hsum := hsum hlk hlb
  obtain ⟨-, y2, y3⟩ := whyThrown_eq t1 t2 c1 ss1 ss2 ss3 hK hBx t3 m2 ss0 hp hone
  have hroom : nw + ((up par (kob b)).map (rc nk nb lk lb par kob (kob b))).sum ≤ 120 := by omega
  have hT := throwMakes_eq t1 t2 ss1 ss2 hK hBx t3 m2 ss0 hp hone
  have agr := step_throwBox (by omega) hI (nI b)
  have hin : ¬ (nI (2 * b) < 0 ∨ 12 ≤ (nI (2 * b)).toNatClampNeg) := nI_in (by omega) (by omega)
  obtain ⟨-, lp⟩ := thr_loop (L := L) (xs := xs) (k42 := k42) h hL m2 ss0 (p := kob b) opv ((mw, ke, bo, lk, lb, par, mak, wea, kob, nu, hek, hew, clo, clm, sta), o, R) (nI t) x8 y10 0 (nI b) (kob b) hp 6000 0 (by have := up_len20 t3 t1 hp; omega) hone
  rw [Nat.zero_add, show nI 0 = 0 from rfl] at lp
  unfold fL_law_b899
  rw [if_pos rfl, i2, if_neg hin, nI_clamp (by omega), (hLB b hb).1, (hBx b hb).1]
  unfold fL_law_b922
  rw [epm] at lp
  rcases lp with ⟨q1, q2⟩ | ⟨q1, q2⟩
  · have hmk : fX8_throwMakes r.1 (kob b) = some (nI ((up par (kob b)).map (rc nk nb lk lb par kob (kob b))).sum) := by
      rcases hT with ⟨-, q⟩ | ⟨q, -⟩
      · exact q
      · exact absurd q1 q
    have rK : RK (upd r.1 (84 + 2 * b + 1) 0) nk lk par mak wea := fun k hk => by
      rw [pk_un (by omega), pk_un (by omega), pk_un (by omega), pk_un (by omega)]
      exact hK k hk
    have rB : RB (upd r.1 (84 + 2 * b + 1) 0) nb (lb &&& (fX7_setOf (nI b) ^^^ (-1))) kob := fun b' hb' => by
      obtain ⟨r0, r1⟩ := hBx b' hb'
      rw [b_and, b_not _ (by omega), bt_setOf (by omega) (by omega)]
      by_cases hbb : b' = b
      · subst hbb
        rw [pk_un (by omega), pk_us]
        exact ⟨r0, by simp⟩
      · rw [pk_un (by omega), pk_un (by omega)]
        exact ⟨r0, by rw [r1]; simp [hbb]⟩
    obtain ⟨st', qv', kev', wrv', w1, x1, x2, x3, x4⟩ := above_sim h (by omega) hL hp (st0 := upd r.1 (84 + 2 * b + 1) 0) (kev0 := kev) (bov0 := upd bov (2 * b + 1) 0) (lk' := lk) (lb' := lb &&& (fX7_setOf (nI b) ^^^ (-1)))
      (pk_un (by omega)) (by rw [pk_un (by omega)]; exact ss1) (by rw [pk_un (by omega)]; exact ss2) (by rw [pk_un (by omega)]; exact ss3) rK rB (fun j hj => pk_un (by omega))
      (fun k hk => by
        rw [pk_un (by omega), pk_un (by omega), pk_un (by omega), pk_un (by omega)]
        exact hLK k hk) hZ
      (fun b' hb' => by
        obtain ⟨l0, l1⟩ := hLB b' hb'
        by_cases hbb : b' = b
        · subst hbb
          rw [pk_un (by omega), pk_us, pk_un (by omega), pk_us]
          exact ⟨l0, rfl⟩
        · rw [pk_un (by omega), pk_un (by omega), pk_un (by omega), pk_un (by omega)]
          exact ⟨l0, l1⟩)
      (by rw [hsum]; omega)
    rw [hsum, epm] at x3
    rw [hsum] at x4
    have es : fX8_setBox r.1 (nI b) 1 0 = some (upd r.1 (84 + 2 * b + 1) 0) := setBox_nI (by omega) (p := 1) (by omega) r.1 0
    have hbt : fX8_boxThrown r.1 (nI b) = some (nI ((up par (kob b)).map (rc nk nb lk lb par kob (kob b))).sum, st') := by
      unfold fX8_boxThrown
      rw [box0 (by omega), Option.bind_some, (hBx b hb).1, hmk, Option.bind_some, es, Option.bind_some, box0 (by omega), Option.bind_some, pk_un (by omega), (hBx b hb).1, x1]
      rfl
    obtain ⟨c', r', z1, z2, z3⟩ := yes_throwBox (nI b) agr (why_tb h hb hl (y2 hroom q1)) hbt
    rw [q2]
    unfold fL_law_b999
    rw [if_pos rfl]
    unfold fL_law_b1010
    rw [if_pos rfl, makes_box h hb hl hmk, Option.bind_some]
    unfold fL_law_b1027
    rw [if_pos rfl, z1, Option.bind_some]
    unfold fL_law_b1047 fL_law_b1049
    rw [if_pos rfl, if_neg n10, if_pos rfl]
    unfold fL_law_b1075
    rw [if_neg n10]
    have fl := flagBB (L := L) (xs := xs) (k42 := k42) (kev := kev) (wrv := wrv) (qv := qv) hb n2 a2 opv c' (nI t) x8 y10 (kob b) (nI ((up par (kob b)).map (rc nk nb lk lb par kob (kob b))).sum) 6000 0 bov (Nat.zero_le _) (by omega)
    rw [if_pos (Nat.zero_le b)] at fl
    refine fl.trans ?_
    unfold fL_law_b1138
    have e1141 : ∀ bov0, fL_law_b1141 L xs k42 6000 qv kev bov0 wrv opv c' (nI t) x8 y10 0 (kob b) (nI ((up par (kob b)).map (rc nk nb lk lb par kob (kob b))).sum) 0 = fL_law_b1180 L xs k42 qv kev bov0 wrv opv c' (nI t) x8 (kob b) (nI ((up par (kob b)).map (rc nk nb lk lb par kob (kob b))).sum) := fun bov0 => by
      rw [fL_law_b1141, if_neg q1i, if_pos (show (0 : Int32) = 0 from rfl), ite_self]
    rw [e1141]
    unfold fL_law_b1180
    rw [x2, Option.bind_some, x3, Option.bind_some, if_pos rfl]
    exact fin_1208 z2 (by rw [z3]; exact x4) (by omega) ht hgo opv x8
  · have hmk : fX8_throwMakes r.1 (kob b) = some (-5) := by
      rcases hT with ⟨q, -⟩ | ⟨-, q⟩
      · exact absurd q q1
      · exact q
    obtain ⟨c', r', z1, z2, z3⟩ := no_throwBox (nI b) agr (why_tb h hb hl (y3 hroom q1)) (by decide)
    rw [q2]
    unfold fL_law_b999
    rw [if_pos rfl]
    unfold fL_law_b1010
    rw [if_pos rfl, makes_box h hb hl hmk, Option.bind_some]
    unfold fL_law_b1027
    rw [if_pos rfl, z1, Option.bind_some]
    unfold fL_law_b1047 fL_law_b1049
    rw [if_pos rfl, if_pos rfl, if_pos rfl]
    unfold fL_law_b1075
    rw [if_pos rfl]
    exact fin_1208 z2 (by rw [z3]; exact hL) (by omega) ht hgo opv x8
theorem act_throw (hI : Inv0 n ((mw, ke, bo, lk, lb, par, mak, wea, kob, nu, hek, hew, clo, clm, sta), o, R) r) (h : Rel n nk nb nw r.1 mw ke bo lk lb par mak wea kob nu hek hew clo clm sta) (hL : LSt r.1 nk nb nw qv kev bov wrv) (hn : n ≤ 3 * t) (ht : t < 18) (hgo : Go k42 t) (hw50 : nw ≤ 50) {k : Nat} (hk : k < nk ∨ (nk = 0 ∧ k = 0)) (opv : Nat → Int64) (x8 y9 : Int32) : fL_law_b829 L xs k42 qv kev bov wrv opv ((mw, ke, bo, lk, lb, par, mak, wea, kob, nu, hek, hew, clo, clm, sta), o, R) (nI t) x8 y9 (nI k) (if bt lk k = true then 1 else 0) = some 1 := by
  obtain ⟨⟨e1, e2, e3⟩, ⟨t1, t2, t3, t4, t5, t6, t7, t8⟩, ⟨c1, ⟨m0, m1, m2, em⟩, c3⟩, hW, hH, hU, ⟨s0, s1, s2, s3⟩, hK, hBx, hR⟩ := id h
  obtain ⟨⟨⟨a0, a1, a2, a3⟩, ⟨b1, b2, b3⟩, n1, n2, n3⟩, hLK, hZ, hLB, hLW⟩ := id hL
  have keyT : ∀ y14, fL_law_b863 L xs k42 qv kev bov wrv opv ((mw, ke, bo, lk, lb, par, mak, wea, kob, nu, hek, hew, clo, clm, sta), o, R) (nI t) x8 (nI k) (if bt lk k = true then 1 else 0) 1 y14 = some 1 := fun y14 => by
    unfold fL_law_b863
    rw [if_neg n10]
    by_cases hl : bt lk k = true
    · have hkn : k < nk := by
        rcases hk with hk | ⟨hk, rfl⟩
        · exact hk
        · rw [t5 0 (by omega)] at hl; cases hl
      rw [if_pos hl, if_neg n10]
      exact act_throwK hI h hL hn ht hgo hw50 hkn hl opv x8 y14
    · rw [if_neg hl, if_pos rfl]
      exact fin_1229 hI hL (by omega) hgo opv
  have boxT : ∀ y11 b, (b < nb ∨ (nb = 0 ∧ b = 0)) → fL_law_b863 L xs k42 qv kev bov wrv opv ((mw, ke, bo, lk, lb, par, mak, wea, kob, nu, hek, hew, clo, clm, sta), o, R) (nI t) x8 (nI k) y11 0 (nI b) = some 1 := fun y11 b hb => by
    unfold fL_law_b863
    rw [if_pos rfl, if_neg q2i, cl2, a2]
    by_cases h0 : nb = 0
    · rw [if_pos (show nI nb = 0 by rw [h0]; rfl)]
      exact fin_1229 hI hL (by omega) hgo opv
    have hbn : b < nb := by omega
    rw [if_neg (nI_ne0 (by omega) (by omega)), i2, i2p1, if_neg (nI_in (by omega) (by omega)), nI_clamp (by omega), (hLB b hbn).2, (hBx b hbn).2]
    by_cases hl : bt lb b = true
    · rw [if_pos hl, if_neg n10]
      exact act_throwB hI h hL hn ht hgo hw50 hbn hl opv x8 _
    · rw [if_neg hl, if_pos rfl]
      exact fin_1229 hI hL (by omega) hgo opv
  unfold fL_law_b829
  rw [if_neg q2i, cl2, a2, if_neg q2j, if_neg q2j, if_neg q2j]
  by_cases h0 : nb = 0
  · have e0 : nI nb = 0 := by rw [h0]; rfl
    rw [if_pos e0, if_pos e0]
    by_cases h8 : y9 = 8
    · rw [if_pos h8]
      exact keyT 0
    · rw [if_neg h8]
      exact boxT _ 0 (Or.inr ⟨h0, rfl⟩)
  · have e0 : ¬ nI nb = 0 := nI_ne0 (by omega) (by omega)
    obtain ⟨y, hy, ey⟩ := low_eq (x8 >>> ((4 : Int32) &&& 31)) (n := nb) (by omega) (by omega)
    rw [if_neg e0, if_neg e0, ey, Option.bind_some, Option.bind_some]
    by_cases h8 : y9 = 8
    · rw [if_pos h8]
      exact keyT _
    · rw [if_neg h8]
      exact boxT _ y (Or.inl hy)
end ACTC

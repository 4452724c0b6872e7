/-! a key made anew; all above what was thrown away -/
section LSIMS
variable {B nk nb nw : Nat} {st qv kev bov wrv : Nat → Int32} {mw ke bo lk lb lk' lb' nu : Int32} {par mak wea kob hek hew clo clm sta : Nat → Int32}
theorem above_sim (h : Rel B nk nb nw st mw ke bo lk lb par mak wea kob nu hek hew clo clm sta) (hB64 : B + 1 < 64) (hL : LSt st nk nb nw qv kev bov wrv) {p : Int32} (hp : Up nk p) {st0 kev0 bov0 : Nat → Int32} (g0 : st0 0 = st 0) (g1 : st0 1 = nI nk) (g2 : st0 2 = nI nb) (g3 : st0 3 = nI nw)
    (hK0 : RK st0 nk lk' par mak wea) (hB0 : RB st0 nb lb' kob) (hcell : ∀ j, 124 ≤ j → st0 j = st j) (hLK0 : LKy nk st0 kev0) (hZ0 : LZr nk kev0) (hLB0 : LBx nb st0 bov0) (hroom : nw + ((up par p).map (hf nk nb lk' lb' par kob)).sum ≤ 64) :
    ∃ st' qv' kev' wrv' w1, fX8_makesAboveAnew st0 p = some st' ∧ fL_burn qv kev0 bov0 wrv (-1) = some w1 ∧ fL_anew qv kev0 bov0 w1 (pm p) = some (nI ((up par p).map (hf nk nb lk' lb' par kob)).sum, qv', kev', wrv') ∧ LSt st' nk nb (nw + ((up par p).map (hf nk nb lk' lb' par kob)).sum) qv' kev' bov0 wrv' := by
  obtain ⟨-, ⟨t1, t2, t3, t4, -⟩, hC, hW, -, -, -, -, -, hR⟩ := id h
  obtain ⟨⟨⟨a0, a1, a2, a3⟩, ⟨b1, b2, b3⟩, n1, n2, n3⟩, -, -, -, hLW⟩ := hL
  have hk1 : ∀ k, k < nk → kev0 (4 * k + 1) = if bt lk' k = true then 1 else 0 := fun k hk => by rw [(hLK0 k hk).2.1]; exact (hK0 k hk).2.1
  have hb1 : ∀ b, b < nb → bov0 (2 * b + 1) = if bt lb' b = true then 1 else 0 := fun b hb => by rw [(hLB0 b hb).2]; exact (hB0 b hb).2
  obtain ⟨w1, e1, v1⟩ := burn_step (kev := kev0) (bov := bov0) (lk := lk') (lb := lb') a3 n1 n2 n3 hW (LV_of (LWc_of hLW hR)) hk1 hb1 (-1)
  have v1' : LV nw hek hew clo clm sta w1 (fun w => DeadC nk nb lk' lb' hek hew w) := LV_iff v1 (fun w hw => by
    obtain ⟨p1, ⟨c, m, m', c1, c2, -⟩, -⟩ := hW w hw
    constructor
    · rintro (q | q | q | q)
      · exact absurd q id
      · rcases p1 with ⟨p1, -⟩ | ⟨k, j, p1, p2, p3, -⟩
        · rw [p1, pk7_6] at q; exact absurd q (by decide)
        · rw [p3, pk7_nI (by omega)] at q; exact absurd q (m1_ne (by omega))
      · rw [c2] at q; exact absurd q (m1_ne (by omega))
      · exact q
    · exact fun q => Or.inr (Or.inr (Or.inr q)))
  have hlen := up_len20 t3 t1 hp
  have hupn : ∀ k, k ∈ up par p → k < nk := fun k hk => up_nk t3 t1 hp hk
  obtain ⟨kev', w2, f1, f2, f3, v2⟩ := newL (qv := qv) (bov := bov0) a3 n1 n2 n3 t3 hW hb1 (pm p) 0 p hp 6000 kev0 w1 _ (by omega) (fun k hk => by rw [(hLK0 k hk).1, (hK0 k hk).1]) hk1 (fun w _ q => q) v1'
  obtain ⟨s', u1, u2, u3⟩ := newUp t3 t1 p p hp 6000 st0 (by omega) (fun k hk => (hK0 k hk).1)
  have hM : ∀ k, k < nk → ∃ m, m < 64 ∧ (if k ∈ up par p then mak k + 1 else mak k) = nI m := fun k hk => by
    obtain ⟨⟨m, m1, m2⟩, -⟩ := hC.2.2 k hk
    by_cases hu : k ∈ up par p
    · exact ⟨m + 1, by omega, by rw [if_pos hu, m2, nI_1]⟩
    · exact ⟨m, by omega, by rw [if_neg hu, m2]⟩
  have hKs : RK s' nk lk' par (fun k => if k ∈ up par p then mak k + 1 else mak k) (fun k => if k ∈ up par p then 0 else wea k) := fun k hk => by
    obtain ⟨r0, r1, r2, r3⟩ := hK0 k hk
    rw [u2 (4 + 4 * k) (fun k' _ => by omega), u2 (4 + 4 * k + 1) (fun k' _ => by omega)]
    refine ⟨r0, r1, ?_, ?_⟩
    · show s' (4 + 4 * k + 2) = if k ∈ up par p then mak k + 1 else mak k
      by_cases hu : k ∈ up par p
      · rw [if_pos hu, (u3 k hu).1, r2]
      · have hne : ∀ k', k' ∈ up par p → k' ≠ k := fun k' hk' e => hu (e ▸ hk')
        rw [if_neg hu, u2 _ (fun k' hk' => by have := hne k' hk'; omega), r2]
    · show s' (4 + 4 * k + 3) = if k ∈ up par p then 0 else wea k
      by_cases hu : k ∈ up par p
      · rw [if_pos hu, (u3 k hu).2]
      · have hne : ∀ k', k' ∈ up par p → k' ≠ k := fun k' hk' e => hu (e ▸ hk')
        rw [if_neg hu, u2 _ (fun k' hk' => by have := hne k' hk'; omega), r3]
  have hBs : RB s' nb lb' kob := fun b hb => by
    rw [u2 _ (fun k' hk' => by have := hupn k' hk'; omega), u2 _ (fun k' hk' => by have := hupn k' hk'; omega)]
    exact hB0 b hb
  obtain ⟨s2, z1, z2, z3⟩ := burns_sim h (by omega) hupn (fun k _ => rfl) (s1 := s') (by rw [u2 3 (fun k' _ => by omega)]; exact g3) hKs hBs (fun j hj => by rw [u2 j (fun k' hk' => by have := hupn k' hk'; omega)]; exact hcell j hj) v2
  have hKs2 : RK3 s2 nk lk' par (fun k => if k ∈ up par p then mak k + 1 else mak k) := fun k hk => by
    rw [z2 _ (by omega), z2 _ (by omega), z2 _ (by omega)]
    exact ⟨(hKs k hk).1, (hKs k hk).2.1, (hKs k hk).2.2.1⟩
  have hBs2 : RB s2 nb lb' kob := fun b hb => by
    rw [z2 _ (by omega), z2 _ (by omega)]
    exact hBs b hb
  have hM2 : LMk nk s2 := fun k hk => by
    rw [(hKs2 k hk).2.2]
    exact hM k hk
  have hL2 : LSt s2 nk nb nw qv kev' bov0 w2 := by
    refine ⟨⟨⟨?_, a1, a2, a3⟩, ⟨?_, ?_, ?_⟩, n1, n2, n3⟩, fun k hk => ?_, fun k hk hk6 => ?_, fun b hb => ?_, z3⟩
    · rw [z2 0 (by omega), u2 0 (fun k' _ => by omega), g0]; exact a0
    · rw [z2 1 (by omega), u2 1 (fun k' _ => by omega), g1]
    · rw [z2 2 (by omega), u2 2 (fun k' _ => by omega), g2]
    · rw [z2 3 (by omega), u2 3 (fun k' _ => by omega), g3]
    · obtain ⟨l0, l1, l2, l3⟩ := hLK0 k hk
      rw [z2 _ (by omega), z2 _ (by omega), z2 _ (by omega), z2 _ (by omega), f2 (4 * k) (fun k' _ => by omega), f2 (4 * k + 1) (fun k' _ => by omega), u2 (4 + 4 * k) (fun k' _ => by omega), u2 (4 + 4 * k + 1) (fun k' _ => by omega)]
      refine ⟨l0, l1, ?_, ?_⟩
      · by_cases hu : k ∈ up par p
        · rw [(f3 k hu).1, (u3 k hu).1, l2]
        · have hne : ∀ k', k' ∈ up par p → k' ≠ k := fun k' hk' e => hu (e ▸ hk')
          rw [f2 _ (fun k' hk' => by have := hne k' hk'; omega), u2 _ (fun k' hk' => by have := hne k' hk'; omega), l2]
      · by_cases hu : k ∈ up par p
        · rw [(f3 k hu).2, (u3 k hu).2]
        · have hne : ∀ k', k' ∈ up par p → k' ≠ k := fun k' hk' e => hu (e ▸ hk')
          rw [f2 _ (fun k' hk' => by have := hne k' hk'; omega), u2 _ (fun k' hk' => by have := hne k' hk'; omega), l3]
    · rw [f2 _ (fun k' hk' => by have := hupn k' hk'; omega), f2 _ (fun k' hk' => by have := hupn k' hk'; omega)]
      exact hZ0 k hk hk6
    · rw [z2 _ (by omega), z2 _ (by omega), u2 _ (fun k' hk' => by have := hupn k' hk'; omega), u2 _ (fun k' hk' => by have := hupn k' hk'; omega)]
      exact hLB0 b hb
  rcases hp with rfl | ⟨p0, hp0, rfl⟩
  · refine ⟨s2, qv, kev', w2, w1, ?_, e1, ?_, ?_⟩
    · unfold fX8_makesAboveAnew
      rw [u1, z1, Option.bind_some, if_pos rfl]
      rfl
    · unfold fL_anew
      rw [f1, up_6, pm_6, fL_anew_b56, if_pos rfl]
      rfl
    · rw [up_6]; exact hL2
  · have hup := up_k t3 t1 hp0
    have hrev : up par (nI p0) = (up par (nI p0)).reverse.reverse ++ [] := by simp
    have hasc : (up par (nI p0)).reverse.Pairwise (fun a b => a < b) := List.pairwise_reverse.mpr (up_sorted t3 t1 (nI p0) (Or.inr ⟨p0, hp0, rfl⟩))
    have hsumr : ((up par (nI p0)).reverse.map (hf nk nb lk' lb' par kob)).sum = ((up par (nI p0)).map (hf nk nb lk' lb' par kob)).sum := by rw [List.map_reverse, List.sum_reverse]
    have hlr : (up par (nI p0)).reverse.length = (up par (par p0)).length + 1 := by rw [List.length_reverse, hup, List.length_cons]
    have hab := rabove_eq t3 t1 (fun k hk => (hKs2 k hk).1) hp0
    have hl2 : (up par (par p0)).length + 1 ≤ 20 := by rw [← hlr, List.length_reverse]; exact hlen
    obtain ⟨st', q', e', v', k1, k2, k3⟩ := chain_sim (bov := bov0) hp0 (up par (nI p0)).reverse [] hrev hasc (fun z hz => by cases hz) 6000 6000 nw s2 qv kev' w2 0 (-1) (by omega) (by omega) (Or.inl ⟨rfl, rfl⟩) t3 hL2 hKs2 hBs2 hM2 (by rw [hsumr]; exact hroom)
    rw [hsumr] at k2 k3
    rw [Nat.zero_add] at k2
    refine ⟨st', q', e', v', w1, ?_, e1, ?_, k3⟩
    · unfold fX8_makesAboveAnew
      rw [u1, z1, Option.bind_some, if_neg (nI_ne6 (by omega)), hab, Option.bind_some]
      rw [hlr, nI_m1] at k1
      exact k1
    · unfold fL_anew
      rw [f1, pm_nI (by omega)]
      exact k2
theorem renew_sim (h : Rel B nk nb nw st mw ke bo lk lb par mak wea kob nu hek hew clo clm sta) (hB64 : B + 1 < 64) (hL : LSt st nk nb nw qv kev bov wrv) {k : Nat} (hk : k < nk) (hroom : nw + hf nk nb lk lb par kob k + 1 ≤ 64) :
    ∃ st' nw' qv' kev' wrv' w1, fX8_renewed st (nI k) = some (nI (hf nk nb lk lb par kob k + if par k = -6 then 0 else 1), st') ∧ LSt st' nk nb nw' qv' kev' bov wrv' ∧ fL_burn qv (upd (upd kev (4 * k + 2) (kev (4 * k + 2) + 1)) (4 * k + 3) 0) bov wrv (nI k) = some w1 ∧
      ((par k = -6 ∧ ∃ v, fL_wrapAll qv (upd (upd kev (4 * k + 2) (kev (4 * k + 2) + 1)) (4 * k + 3) 0) bov w1 (nI k) = some (v, qv', kev', wrv')) ∨
       ∃ c q2 k2 w2 v, c < k ∧ par k = nI c ∧ fL_wrap qv (upd (upd kev (4 * k + 2) (kev (4 * k + 2) + 1)) (4 * k + 3) 0) w1 (nI k) (upd (upd kev (4 * k + 2) (kev (4 * k + 2) + 1)) (4 * k + 3) 0 (4 * k + 2)) (nI c) = some (q2, k2, w2) ∧ fL_wrapAll q2 k2 bov w2 (nI k) = some (v, qv', kev', wrv')) := by
  obtain ⟨⟨h01, h02, h03⟩, ⟨t1, t2, t3, t4, -⟩, hC, hW, -, -, ⟨s0, s1, s2x, s3⟩, hK, hBx, hR⟩ := id h
  obtain ⟨⟨⟨a0, a1, a2, a3⟩, ⟨b1, b2, b3⟩, n1, n2, n3⟩, hLK, hZ, hLB, hLW⟩ := hL
  have cell : ∀ j, j ≠ 4 + 4 * k + 2 → j ≠ 4 + 4 * k + 3 → stNew st k j = st j := fun j h1 h2 => by
    unfold stNew
    rw [pk_un h2, pk_un h1]
  generalize hkev : upd (upd kev (4 * k + 2) (kev (4 * k + 2) + 1)) (4 * k + 3) 0 = kev1
  have ko : ∀ j, j ≠ 4 * k + 2 → j ≠ 4 * k + 3 → kev1 j = kev j := fun j h1 h2 => by rw [← hkev, pk_un h2, pk_un h1]
  have k2' : kev1 (4 * k + 2) = kev (4 * k + 2) + 1 := by rw [← hkev, pk_un (by omega), pk_us]
  have k3' : kev1 (4 * k + 3) = 0 := by rw [← hkev, pk_us]
  have hk1 : ∀ j, j < nk → kev1 (4 * j + 1) = if bt lk j = true then 1 else 0 := fun j hj => by rw [ko _ (by omega) (by omega), (hLK j hj).2.1]; exact (hK j hj).2.1
  have hb1 : ∀ b, b < nb → bov (2 * b + 1) = if bt lb b = true then 1 else 0 := fun b hb => by rw [(hLB b hb).2]; exact (hBx b hb).2
  obtain ⟨w1, e1, v1⟩ := burn_step (kev := kev1) (bov := bov) (lk := lk) (lb := lb) a3 n1 n2 n3 hW (LV_of (LWc_of hLW hR)) hk1 hb1 (nI k)
  have v1' : LV nw hek hew clo clm sta w1 (fun w => DeadC nk nb lk lb hek hew w ∨ ∃ j, j ∈ [k] ∧ (hek w = nI j ∨ clo w = nI j)) := LV_iff v1 (fun w hw => by
    constructor
    · rintro (q | q | q | q)
      · exact absurd q id
      · exact Or.inr ⟨k, List.mem_singleton.mpr rfl, Or.inl ((pk7_eq (by omega)).mp q)⟩
      · exact Or.inr ⟨k, List.mem_singleton.mpr rfl, Or.inr q⟩
      · exact Or.inl q
    · rintro (q | ⟨j, hj, q⟩)
      · exact Or.inr (Or.inr (Or.inr q))
      · have := List.mem_singleton.mp hj
        subst this
        rcases q with q | q
        · exact Or.inr (Or.inl ((pk7_eq (by omega)).mpr q))
        · exact Or.inr (Or.inr (Or.inl q)))
  have hKs : RK (stNew st k) nk lk par (fun j => if j ∈ [k] then mak j + 1 else mak j) (fun j => if j ∈ [k] then 0 else wea j) := fun j hj => by
    obtain ⟨r0, r1, r2, r3⟩ := hK j hj
    rw [cell (4 + 4 * j) (by omega) (by omega), cell (4 + 4 * j + 1) (by omega) (by omega)]
    refine ⟨r0, r1, ?_, ?_⟩
    · show stNew st k (4 + 4 * j + 2) = if j ∈ [k] then mak j + 1 else mak j
      by_cases hjk : j = k
      · subst hjk
        rw [if_pos (List.mem_singleton.mpr rfl)]
        unfold stNew
        rw [pk_un (by omega), pk_us, r2]
      · rw [if_neg (fun q => hjk (List.mem_singleton.mp q)), cell _ (by omega) (by omega), r2]
    · show stNew st k (4 + 4 * j + 3) = if j ∈ [k] then 0 else wea j
      by_cases hjk : j = k
      · subst hjk
        rw [if_pos (List.mem_singleton.mpr rfl)]
        unfold stNew
        rw [pk_us]
      · rw [if_neg (fun q => hjk (List.mem_singleton.mp q)), cell _ (by omega) (by omega), r3]
  have hBs : RB (stNew st k) nb lb kob := fun b hb => by
    rw [cell _ (by omega) (by omega), cell _ (by omega) (by omega)]
    exact hBx b hb
  obtain ⟨s2, z1, z2, z3⟩ := burns_sim h (by omega) (S := [k]) (fun j hj => by rw [List.mem_singleton.mp hj]; exact hk) (fun j _ => rfl) (s1 := stNew st k) (by rw [cell 3 (by omega) (by omega)]; exact b3) hKs hBs (fun j hj => cell j (by omega) (by omega)) v1'
  have hKs2 : RK3 s2 nk lk par (fun j => if j ∈ [k] then mak j + 1 else mak j) := fun j hj => by
    rw [z2 _ (by omega), z2 _ (by omega), z2 _ (by omega)]
    exact ⟨(hKs j hj).1, (hKs j hj).2.1, (hKs j hj).2.2.1⟩
  have hBs2 : RB s2 nb lb kob := fun b hb => by
    rw [z2 _ (by omega), z2 _ (by omega)]
    exact hBs b hb
  have hM2 : LMk nk s2 := fun j hj => by
    rw [(hKs2 j hj).2.2]
    show ∃ m, m < 64 ∧ (if j ∈ [k] then mak j + 1 else mak j) = nI m
    obtain ⟨⟨m, m1, m2⟩, -⟩ := hC.2.2 j hj
    by_cases hu : j ∈ [k]
    · exact ⟨m + 1, by omega, by rw [if_pos hu, m2, nI_1]⟩
    · exact ⟨m, by omega, by rw [if_neg hu, m2]⟩
  have hL2 : LSt s2 nk nb nw qv kev1 bov w1 := by
    refine ⟨⟨⟨?_, a1, a2, a3⟩, ⟨?_, ?_, ?_⟩, n1, n2, n3⟩, fun j hj => ?_, fun j hj hj6 => ?_, fun b hb => ?_, z3⟩
    · rw [z2 0 (by omega), cell 0 (by omega) (by omega)]; exact a0
    · rw [z2 1 (by omega), cell 1 (by omega) (by omega)]; exact b1
    · rw [z2 2 (by omega), cell 2 (by omega) (by omega)]; exact b2
    · rw [z2 3 (by omega), cell 3 (by omega) (by omega)]; exact b3
    · obtain ⟨l0, l1, l2, l3⟩ := hLK j hj
      rw [z2 _ (by omega), z2 _ (by omega), z2 _ (by omega), z2 _ (by omega), ko (4 * j) (by omega) (by omega), ko (4 * j + 1) (by omega) (by omega), cell (4 + 4 * j) (by omega) (by omega), cell (4 + 4 * j + 1) (by omega) (by omega)]
      refine ⟨l0, l1, ?_, ?_⟩
      · by_cases hjk : j = k
        · subst hjk
          rw [k2', l2]
          unfold stNew
          rw [pk_un (by omega), pk_us]
        · rw [ko _ (by omega) (by omega), cell _ (by omega) (by omega), l2]
      · by_cases hjk : j = k
        · subst hjk
          rw [k3']
          unfold stNew
          rw [pk_us]
        · rw [ko _ (by omega) (by omega), cell _ (by omega) (by omega), l3]
    · rw [ko _ (by omega) (by omega), ko _ (by omega) (by omega)]
      exact hZ j hj hj6
    · rw [z2 _ (by omega), z2 _ (by omega), cell _ (by omega) (by omega), cell _ (by omega) (by omega)]
      exact hLB b hb
  have eH := hangingFrom_eq t1 t2 b1 b2 hK hBx k
  have eMs : fX8_renewMakes st (nI k) = some (nI (hf nk nb lk lb par kob k + if par k = -6 then 0 else 1)) := by
    unfold fX8_renewMakes
    rw [eH, Option.bind_some, risRoot_eq (by omega) (hK k hk).1, Option.bind_some]
    by_cases hr : par k = -6
    · rw [if_pos hr, if_pos hr, if_neg (show ¬ ((1 : Int32) = 0) by decide)]
      exact congrArg some (nI_add _ 0)
    · rw [if_neg hr, if_neg hr, if_pos rfl, nI_1]
  by_cases hr : par k = -6
  · obtain ⟨st', q', e', v', g1, g2, g3, -⟩ := wrapAll_sim hL2 hKs2 hBs2 hM2 hk (by omega)
    refine ⟨st', _, q', e', v', w1, ?_, g3, e1, Or.inl ⟨hr, _, g2⟩⟩
    unfold fX8_renewed
    rw [eMs, Option.bind_some, makesAnew_eq (by omega), Option.bind_some, z1, Option.bind_some, risRoot_eq (by omega) (hKs2 k hk).1, Option.bind_some, if_pos hr, if_neg (show ¬ ((1 : Int32) = 0) by decide), g1]
    rfl
  · obtain ⟨c, hc, ec⟩ : ∃ c, c < k ∧ par k = nI c := (t3 k hk).resolve_left hr
    obtain ⟨m, m1, m2⟩ := hM2 k hk
    obtain ⟨st1, q1, ke1, wv1, g1, g2, g3, g4⟩ := wrap_sim hL2 (by omega) (by omega : c < nk) (hM2 c (by omega)) (x := nI k) (X := k) (y := m) (Or.inl ⟨rfl, by omega⟩) m1
    have hS := same3_of (nk := nk) (nb := nb) n1 n2 (by omega : c < nk) g4
    obtain ⟨st', q', e', v', f1, f2, f3, -⟩ := wrapAll_sim g3 (RK3_same hKs2 hS) (RB_same hBs2 hS) (LM_same hM2 hS) hk (by omega)
    have ek : kev1 (4 * k + 2) = nI m := by rw [(hL2.2.1 k hk).2.2.1, m2]
    refine ⟨st', _, q', e', v', w1, ?_, f3, e1, Or.inr ⟨c, q1, ke1, wv1, _, hc, ec, by rw [ek]; exact g2, f2⟩⟩
    unfold fX8_renewed
    rw [eMs, Option.bind_some, makesAnew_eq (by omega), Option.bind_some, z1, Option.bind_some, risRoot_eq (by omega) (hKs2 k hk).1, Option.bind_some, if_neg hr, if_pos rfl]
    unfold fX8_wrapKey
    rw [key2 (by omega), Option.bind_some, key0 (by omega), Option.bind_some, (hKs2 k hk).1, ec, m2, g1, Option.bind_some, Option.bind_some, f1]
    rfl
end LSIMS

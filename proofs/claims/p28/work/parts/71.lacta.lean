/-! the law's acts -/
theorem q0j : ¬ ((0 : Int32) < 0 ∨ (4 : Nat) ≤ 0) := by decide
theorem q1j : ¬ ((1 : Int32) < 0 ∨ (4 : Nat) ≤ 1) := by decide
theorem q2j : ¬ ((2 : Int32) < 0 ∨ (4 : Nat) ≤ 2) := by decide
theorem q3j : ¬ ((3 : Int32) < 0 ∨ (4 : Nat) ≤ 3) := by decide
def GI (n : Nat) (c : CS) (qv kev bov wrv : Nat → Int32) : Prop := ∃ (r : RS) (nk nb nw : Nat), Inv0 n c r ∧ LSt r.1 nk nb nw qv kev bov wrv
abbrev K42 : Type := (Nat → Int32) → (Nat → Int32) → (Nat → Int32) → (Nat → Int32) → (Nat → Int64) → CS → Int32 → Option Int32
def Go (k42 : K42) (t : Nat) : Prop := ∀ (n : Nat) (c : CS) (qv kev bov wrv : Nat → Int32) (opv : Nat → Int64), GI n c qv kev bov wrv → n ≤ 3 * t + 3 → k42 qv kev bov wrv opv c (nI (t + 1)) = some 1
section ACTS
variable {n t L : Nat} {xs : Nat → Int32} {k42 : K42} {nk nb nw : Nat} {qv kev bov wrv : Nat → Int32} {r : RS} {o : (Nat → Int32) × (Nat → Int32)} {R : CRt} {mw ke bo lk lb nu : Int32} {par mak wea kob hek hew clo clm sta : Nat → Int32}
theorem gi_rel {c : CS} (hI : Inv0 n c r) (hL : LSt r.1 nk nb nw qv kev bov wrv) : ∃ (mw ke bo lk lb : Int32) (par mak wea kob : Nat → Int32) (nu : Int32) (hek hew clo clm sta : Nat → Int32) (o : (Nat → Int32) × (Nat → Int32)) (R : CRt), c = ((mw, ke, bo, lk, lb, par, mak, wea, kob, nu, hek, hew, clo, clm, sta), o, R) ∧ Rel n nk nb nw r.1 mw ke bo lk lb par mak wea kob nu hek hew clo clm sta := by
  obtain ⟨⟨mw, ke, bo, lk, lb, par, mak, wea, kob, nu, hek, hew, clo, clm, sta⟩, o, R⟩ := c
  obtain ⟨nk', nb', nw', h⟩ := hI.1
  have h : Rel n nk' nb' nw' r.1 mw ke bo lk lb par mak wea kob nu hek hew clo clm sta := h
  obtain ⟨⟨e1, e2, e3⟩, ⟨t1, t2, -⟩, ⟨c1, -⟩, -, -, -, ⟨s0, s1, s2, s3⟩, -⟩ := id h
  obtain ⟨⟨-, ⟨b1, b2, b3⟩, n1, n2, n3⟩, -⟩ := hL
  have q1 : nk' = nk := (nI_eq (by omega) (by omega)).mp (e1.symm.trans (s1.symm.trans b1))
  have q2 : nb' = nb := (nI_eq (by omega) (by omega)).mp (e2.symm.trans (s2.symm.trans b2))
  have q3 : nw' = nw := (nI_eq (by omega) (by omega)).mp (e3.symm.trans (s3.symm.trans b3))
  subst q1 q2 q3
  exact ⟨mw, ke, bo, lk, lb, par, mak, wea, kob, nu, hek, hew, clo, clm, sta, o, R, rfl, h⟩
theorem fin_1229 {c : CS} (hI : Inv0 n c r) (hL : LSt r.1 nk nb nw qv kev bov wrv) (hn : n ≤ 3 * t + 3) (hgo : Go k42 t) (opv : Nat → Int64) : fL_law_b1229 L xs k42 qv kev bov wrv opv c (nI t) = some 1 := by
  unfold fL_law_b1229
  rw [nI_1]
  exact hgo n c qv kev bov wrv opv ⟨r, nk, nb, nw, hI, hL⟩ hn
theorem fin_1208 {c : CS} (hI : Inv0 n c r) (hL : LSt r.1 nk nb nw qv kev bov wrv) (hn : n ≤ 3 * t + 3) (ht : t < 18) (hgo : Go k42 t) (opv : Nat → Int64) (x : Int32) : fL_law_b1208 L xs k42 qv kev bov wrv opv c (nI t) x = some 1 := by
  obtain ⟨mw, ke, bo, lk, lb, par, mak, wea, kob, nu, hek, hew, clo, clm, sta, o, R, rfl, h⟩ := gi_rel hI hL
  obtain ⟨opv', o', e⟩ := same_eq h hL (fun k hk => by
    obtain ⟨⟨m, m1, m2⟩, -⟩ := h.2.2.1.2.2 k hk
    exact ⟨m, by omega, m2⟩) opv o R (x >>> ((2 : Int32) &&& 31))
  unfold fL_law_b1208
  rw [e, Option.bind_some, if_neg n10]
  exact fin_1229 (c := ((mw, ke, bo, lk, lb, par, mak, wea, kob, nu, hek, hew, clo, clm, sta), o', R)) hI hL hn hgo opv'
theorem why_key6 (h : Rel n nk nb nw r.1 mw ke bo lk lb par mak wea kob nu hek hew clo clm sta) (hk6 : nk < 6) (hw50 : nw ≤ 50) : fX8_whyNoKey r.1 (-6) = some 0 := by
  obtain ⟨⟨e1, e2, e3⟩, ⟨t1, t2, t3, t4, t5, t6, t7, t8⟩, ⟨c1, ⟨m0, m1, m2, em⟩, c3⟩, hW, hH, hU, ⟨s0, s1, s2, s3⟩, hK, hBx, hR⟩ := id h
  unfold fX8_whyNoKey fX8_whyNoKey_b16
  rw [if_pos rfl, if_neg ix1, cl1, s1, e1, if_neg (show ¬ nI nk = 20 from fun q => by have := (nI_eq (b := 20) (by omega) (by omega)).mp q; omega), if_pos rfl, if_pos rfl]
theorem why_key (h : Rel n nk nb nw r.1 mw ke bo lk lb par mak wea kob nu hek hew clo clm sta) (hk6 : nk < 6) (hw50 : nw ≤ 50) {k : Nat} (hk : k < nk) : fX8_whyNoKey r.1 (nI k) = some (if bt lk k = true then (if wea k < mw then 0 else -5) else -1) := by
  obtain ⟨⟨e1, e2, e3⟩, ⟨t1, t2, t3, t4, t5, t6, t7, t8⟩, ⟨c1, ⟨m0, m1, m2, em⟩, c3⟩, hW, hH, hU, ⟨s0, s1, s2, s3⟩, hK, hBx, hR⟩ := id h
  have ha : ¬ nI k = -6 := nI_ne6 (by omega)
  unfold fX8_whyNoKey
  rw [if_neg ha]
  rcases liveKey_both t1 (by rw [s1, e1]) t5 hK (nI k) with ⟨k', hk', ek, hl, g1, g2⟩ | ⟨g1, g2⟩
  · have := (nI_eq (by omega) (by omega)).mp ek
    subst this
    obtain ⟨-, x, x1, x2⟩ := c3 k hk
    obtain ⟨l1, l2⟩ := left_both (mw := mw) (wea := wea) (st := r.1) (k := k) (by omega) m2 (by omega : x ≤ 120) em x2 s0 (hK k hk).2.2.2
    unfold fX8_whyNoKey_b16
    rw [g2, Option.bind_some, if_neg n10, if_neg ix1, cl1, s1, e1, if_neg (show ¬ nI nk = 20 from fun q => by have := (nI_eq (b := 20) (by omega) (by omega)).mp q; omega), if_neg ha, if_neg ix3, cl3, s3, e3, if_neg (show ¬ nI nw = 120 from fun q => by have := (nI_eq (b := 120) (by omega) (by omega)).mp q; omega), if_neg ha, l2, Option.bind_some, if_pos hl, em, x2]
    by_cases hc : m0 ≤ x
    · rw [if_pos hc, if_pos rfl, if_neg (nI_nlt hc (by omega))]
    · rw [if_neg hc, if_neg n10, if_pos (nI_lt (by omega) (by omega))]
  · have hl : ¬ bt lk k = true := fun q => by
      unfold fX5_isLiveKey at g1
      rw [has_nI (by omega), if_pos q] at g1
      exact absurd g1 (by decide)
    rw [g2, Option.bind_some, if_pos rfl, if_neg hl]
theorem why_box (h : Rel n nk nb nw r.1 mw ke bo lk lb par mak wea kob nu hek hew clo clm sta) (hb6 : nb < 6) (hw50 : nw ≤ 50) {k : Nat} (hk : k < nk ∨ (nk = 0 ∧ k = 0)) : fX8_whyNoBox r.1 (nI k) = some (if bt lk k = true then (if wea k < mw then 0 else -5) else -1) := by
  obtain ⟨⟨e1, e2, e3⟩, ⟨t1, t2, t3, t4, t5, t6, t7, t8⟩, ⟨c1, ⟨m0, m1, m2, em⟩, c3⟩, hW, hH, hU, ⟨s0, s1, s2, s3⟩, hK, hBx, hR⟩ := id h
  unfold fX8_whyNoBox
  rcases liveKey_both t1 (by rw [s1, e1]) t5 hK (nI k) with ⟨k', hk', ek, hl, g1, g2⟩ | ⟨g1, g2⟩
  · have := (nI_eq (by omega) (by omega)).mp ek
    subst this
    obtain ⟨-, x, x1, x2⟩ := c3 k hk'
    obtain ⟨l1, l2⟩ := left_both (mw := mw) (wea := wea) (st := r.1) (k := k) (by omega) m2 (by omega : x ≤ 120) em x2 s0 (hK k hk').2.2.2
    rw [g2, Option.bind_some, if_neg n10, if_neg ix2, cl2, s2, e2, if_neg (show ¬ nI nb = 20 from fun q => by have := (nI_eq (b := 20) (by omega) (by omega)).mp q; omega), if_neg ix3, cl3, s3, e3, if_neg (show ¬ nI nw = 120 from fun q => by have := (nI_eq (b := 120) (by omega) (by omega)).mp q; omega), l2, Option.bind_some, if_pos hl, em, x2]
    by_cases hc : m0 ≤ x
    · rw [if_pos hc, if_pos rfl, if_neg (nI_nlt hc (by omega))]
    · rw [if_neg hc, if_neg n10, if_pos (nI_lt (by omega) (by omega))]
  · have hl : ¬ bt lk k = true := fun q => by
      unfold fX5_isLiveKey at g1
      rw [has_nI (by omega), if_pos q] at g1
      exact absurd g1 (by decide)
    rw [g2, Option.bind_some, if_pos rfl, if_neg hl]
/-- a key more, in the law's rows -/
theorem law_253 (hI : Inv0 n ((mw, ke, bo, lk, lb, par, mak, wea, kob, nu, hek, hew, clo, clm, sta), o, R) r) (h : Rel n nk nb nw r.1 mw ke bo lk lb par mak wea kob nu hek hew clo clm sta) (hL : LSt r.1 nk nb nw qv kev bov wrv) (hn : n ≤ 3 * t) (ht : t < 18) (hgo : Go k42 t) (hk6 : nk < 6) (hw50 : nw ≤ 50) {c' : CS} {r' : RS} (hI' : Inv0 (n + 1) c' r') (opv : Nat → Int64) (x8 : Int32) :
    (r'.1 = stKey r.1 nk (-6) → ∀ y10, fL_law_b253 L xs k42 qv kev bov wrv opv c' (nI t) x8 y10 1 = some 1) ∧ ∀ k, k < nk → fX8_wrapKey (stKey r.1 nk (nI k)) (nI nk) = some r'.1 → fL_law_b253 L xs k42 qv kev bov wrv opv c' (nI t) x8 (nI k) 0 = some 1 := by
  obtain ⟨⟨e1, e2, e3⟩, ⟨t1, t2, t3, t4, t5, t6, t7, t8⟩, ⟨c1, ⟨m0, m1, m2, em⟩, c3⟩, hW, hH, hU, ⟨s0, s1, s2, s3⟩, hK, hBx, hR⟩ := id h
  obtain ⟨⟨⟨a0, a1, a2, a3⟩, ⟨b1, b2, b3⟩, n1, n2, n3⟩, hLK, hZ, hLB, hLW⟩ := id hL
  have hin1 : ¬ (nI (4 * nk) < 0 ∨ 24 ≤ (nI (4 * nk)).toNatClampNeg) := nI_in (by omega) (by omega)
  have hin2 : ¬ (nI (4 * nk + 1) < 0 ∨ 24 ≤ (nI (4 * nk + 1)).toNatClampNeg) := nI_in (by omega) (by omega)
  constructor
  · intro er y10
    have hS := key_sim hL hk6 (-6)
    rw [pm_6] at hS
    unfold fL_law_b253 fL_law_b274
    rw [if_neg q1i, if_neg n10, cl1, a1, i4, i4p1, if_neg hin1, if_neg hin2, if_neg q1j, if_neg q1j, if_neg n10, nI_clamp (by omega), nI_clamp (by omega), nI_1]
    exact fin_1208 hI' (by rw [er]; exact hS) (by omega) ht hgo opv x8
  · intro k hk er
    have hS := key_sim hL hk6 (nI k)
    rw [pm_nI (by omega)] at hS
    have hk3 : stKey r.1 nk (nI k) (4 + 4 * nk) = nI k := by
      unfold stKey
      rw [pk_un (by omega), pk_un (by omega), pk_un (by omega), pk_un (by omega), pk_us]
    have hk4 : stKey r.1 nk (nI k) (4 + 4 * nk + 2) = nI 0 := by
      unfold stKey
      rw [pk_un (by omega), pk_un (by omega), pk_us]; rfl
    have hM : ∃ m, m < 64 ∧ stKey r.1 nk (nI k) (4 + 4 * k + 2) = nI m := by
      obtain ⟨⟨m, q1, q2⟩, -⟩ := c3 k hk
      refine ⟨m, by omega, ?_⟩
      unfold stKey
      rw [pk_un (by omega), pk_un (by omega), pk_un (by omega), pk_un (by omega), pk_un (by omega), (hK k hk).2.2.1, q2]
    obtain ⟨st', q', k', w', w1, w2, w3, w4⟩ := wrap_sim hS (by omega) (by omega : k < nk + 1) hM (x := nI nk) (X := nk) (y := 0) (Or.inl ⟨rfl, by omega⟩) (by omega)
    have er' : r'.1 = st' := by
      unfold fX8_wrapKey at er
      rw [key2 (by omega), Option.bind_some, key0 (by omega), Option.bind_some, hk3, hk4, w1, Option.bind_some] at er
      exact (Option.some.inj er).symm
    unfold fL_law_b253 fL_law_b274
    rw [if_neg q1i, if_pos rfl, cl1, a1, i4, i4p1, if_neg hin1, if_neg hin2, if_neg q1j, if_neg q1j, if_pos rfl, if_neg q1j, nI_clamp (by omega), nI_clamp (by omega), nI_1, pk_us]
    have e9 : nI (nk + 1) - 1 = nI nk := pk_sub (a := nk + 1) (b := 1) (by omega)
    have w2' : fL_wrap (upd qv 1 (nI (nk + 1))) (upd (upd kev (4 * nk) (nI k)) (4 * nk + 1) 1) wrv (nI nk) 0 (nI k) = some (q', k', w') := w2
    rw [e9, w2', Option.bind_some]
    exact fin_1208 hI' (by rw [er']; exact w3) (by omega) ht hgo opv x8
theorem act_key (hI : Inv0 n ((mw, ke, bo, lk, lb, par, mak, wea, kob, nu, hek, hew, clo, clm, sta), o, R) r) (h : Rel n nk nb nw r.1 mw ke bo lk lb par mak wea kob nu hek hew clo clm sta) (hL : LSt r.1 nk nb nw qv kev bov wrv) (hn : n ≤ 3 * t) (ht : t < 18) (hgo : Go k42 t) (hw50 : nw ≤ 50) {k : Nat} (hk : k < nk ∨ (nk = 0 ∧ k = 0)) (opv : Nat → Int64) (x8 : Int32) : fL_law_b156 L xs k42 qv kev bov wrv opv ((mw, ke, bo, lk, lb, par, mak, wea, kob, nu, hek, hew, clo, clm, sta), o, R) (nI t) x8 (nI k) (if bt lk k = true then 1 else 0) (if bt lk k = true then (if wea k < mw then 1 else 0) else 0) = some 1 := by
  obtain ⟨⟨e1, e2, e3⟩, ⟨t1, t2, t3, t4, t5, t6, t7, t8⟩, ⟨c1, ⟨m0, m1, m2, em⟩, c3⟩, hW, hH, hU, ⟨s0, s1, s2, s3⟩, hK, hBx, hR⟩ := id h
  obtain ⟨⟨⟨a0, a1, a2, a3⟩, ⟨b1, b2, b3⟩, n1, n2, n3⟩, hLK, hZ, hLB, hLW⟩ := id hL
  unfold fL_law_b156
  rw [if_neg q1i, cl1, a1]
  by_cases h6 : nk = 6
  · rw [if_pos (show nI nk = 6 by rw [h6]; rfl)]
    exact fin_1229 hI hL (by omega) hgo opv
  rw [if_neg (show ¬ nI nk = 6 from fun q => h6 ((nI_eq (b := 6) (by omega) (by omega)).mp q))]
  have hk6 : nk < 6 := by omega
  have root : fL_law_b190 L xs k42 qv kev bov wrv opv ((mw, ke, bo, lk, lb, par, mak, wea, kob, nu, hek, hew, clo, clm, sta), o, R) (nI t) x8 (nI k) (if bt lk k = true then 1 else 0) (if bt lk k = true then (if wea k < mw then 1 else 0) else 0) 1 = some 1 := by
    obtain ⟨c', r', g1, g2, g3⟩ := yes_key (-6) (step_key hI (-6)) (why_key6 h hk6 hw50) (by rw [makeKey_eq (by omega) b1, if_pos rfl])
    unfold fL_law_b190 fL_law_b192
    rw [if_neg n10, g1, Option.bind_some, if_neg n10, if_neg q1i, cl1, a1]
    unfold fL_law_b235
    rw [if_pos rfl, if_neg n10]
    exact (law_253 hI h hL hn ht hgo hk6 hw50 g2 opv x8).1 g3 _
  unfold fL_law_b167
  rw [if_neg q1i, cl1, a1]
  by_cases h0 : nk = 0
  · rw [if_pos (show nI nk = 0 by rw [h0]; rfl)]
    exact root
  rw [if_neg (nI_ne0 (by omega) (by omega))]
  obtain ⟨y, hy, ey⟩ := low_eq (x8 >>> ((7 : Int32) &&& 31)) (n := 5) (by omega) (by omega)
  have ey' : fL_low (x8 >>> ((7 : Int32) &&& 31)) 5 = some (nI y) := ey
  rw [ey', Option.bind_some]
  by_cases hy0 : nI y = 0
  · rw [if_pos hy0]
    exact root
  rw [if_neg hy0]
  have hkn : k < nk := by omega
  unfold fL_law_b190 fL_law_b192
  rw [if_pos rfl]
  have wy := why_key h hk6 hw50 hkn
  by_cases hl : bt lk k = true
  · rw [if_pos hl] at wy
    by_cases hc : wea k < mw
    · rw [if_pos hc] at wy
      obtain ⟨-, x, x1, x2⟩ := c3 k hkn
      have mk := makeKey_eq (st := r.1) (by omega : nk < 20) b1 (nI k)
      rw [if_neg (nI_ne6 (by omega))] at mk
      have hS := key_sim hL hk6 (nI k)
      have hM : ∃ m, m < 64 ∧ stKey r.1 nk (nI k) (4 + 4 * k + 2) = nI m := by
        obtain ⟨⟨m, q1, q2⟩, -⟩ := c3 k hkn
        refine ⟨m, by omega, ?_⟩
        unfold stKey
        rw [pk_un (by omega), pk_un (by omega), pk_un (by omega), pk_un (by omega), pk_un (by omega), (hK k hkn).2.2.1, q2]
      obtain ⟨st', q', k', w', w1, -, -, -⟩ := wrap_sim hS (by omega) (by omega : k < nk + 1) hM (x := nI nk) (X := nk) (y := 0) (Or.inl ⟨rfl, by omega⟩) (by omega)
      have wk : fX8_wrapKey (stKey r.1 nk (nI k)) (nI nk) = some st' := by
        have hk3 : stKey r.1 nk (nI k) (4 + 4 * nk) = nI k := by
          unfold stKey
          rw [pk_un (by omega), pk_un (by omega), pk_un (by omega), pk_un (by omega), pk_us]
        have hk4 : stKey r.1 nk (nI k) (4 + 4 * nk + 2) = nI 0 := by
          unfold stKey
          rw [pk_un (by omega), pk_un (by omega), pk_us]; rfl
        unfold fX8_wrapKey
        rw [key2 (by omega), Option.bind_some, key0 (by omega), Option.bind_some, hk3, hk4, w1, Option.bind_some]
      rw [wk, Option.bind_some] at mk
      obtain ⟨c', r', g1, g2, g3⟩ := yes_key (nI k) (step_key hI (nI k)) wy mk
      rw [g1, Option.bind_some, if_pos rfl, if_pos hl, if_pos hc, if_neg n10, if_neg q1i, cl1, a1]
      unfold fL_law_b235
      rw [if_pos rfl, if_pos rfl, if_neg n10]
      exact (law_253 hI h hL hn ht hgo hk6 hw50 g2 opv x8).2 k hkn (by rw [g3]; exact wk)
    · rw [if_neg hc] at wy
      obtain ⟨c', r', g1, g2, g3⟩ := no_key (nI k) (step_key hI (nI k)) wy (by decide)
      rw [g1, Option.bind_some, if_pos rfl, if_pos hl, if_neg hc, if_pos rfl, if_pos hl, if_neg n10]
      unfold fL_law_b235
      rw [if_pos rfl, if_pos rfl, if_pos rfl]
      exact fin_1229 g2 (by rw [g3]; exact hL) (by omega) hgo opv
  · rw [if_neg hl] at wy
    obtain ⟨c', r', g1, g2, g3⟩ := no_key (nI k) (step_key hI (nI k)) wy (by decide)
    rw [g1, Option.bind_some, if_pos rfl, if_neg hl, if_pos rfl, if_neg hl, if_pos rfl]
    unfold fL_law_b235
    rw [if_pos rfl, if_pos rfl, if_pos rfl]
    exact fin_1229 g2 (by rw [g3]; exact hL) (by omega) hgo opv
theorem act_box (hI : Inv0 n ((mw, ke, bo, lk, lb, par, mak, wea, kob, nu, hek, hew, clo, clm, sta), o, R) r) (h : Rel n nk nb nw r.1 mw ke bo lk lb par mak wea kob nu hek hew clo clm sta) (hL : LSt r.1 nk nb nw qv kev bov wrv) (hn : n ≤ 3 * t) (ht : t < 18) (hgo : Go k42 t) (hw50 : nw ≤ 50) {k : Nat} (hk : k < nk ∨ (nk = 0 ∧ k = 0)) (opv : Nat → Int64) (x8 : Int32) : fL_law_b324 L xs k42 qv kev bov wrv opv ((mw, ke, bo, lk, lb, par, mak, wea, kob, nu, hek, hew, clo, clm, sta), o, R) (nI t) x8 (nI k) (if bt lk k = true then 1 else 0) (if bt lk k = true then (if wea k < mw then 1 else 0) else 0) = some 1 := by
  obtain ⟨⟨e1, e2, e3⟩, ⟨t1, t2, t3, t4, t5, t6, t7, t8⟩, ⟨c1, ⟨m0, m1, m2, em⟩, c3⟩, hW, hH, hU, ⟨s0, s1, s2, s3⟩, hK, hBx, hR⟩ := id h
  obtain ⟨⟨⟨a0, a1, a2, a3⟩, ⟨b1, b2, b3⟩, n1, n2, n3⟩, hLK, hZ, hLB, hLW⟩ := id hL
  unfold fL_law_b324
  rw [if_neg q2i, cl2, a2]
  by_cases h6 : nb = 6
  · rw [if_pos (show nI nb = 6 by rw [h6]; rfl)]
    exact fin_1229 hI hL (by omega) hgo opv
  rw [if_neg (show ¬ nI nb = 6 from fun q => h6 ((nI_eq (b := 6) (by omega) (by omega)).mp q))]
  have hb6 : nb < 6 := by omega
  unfold fL_law_b335
  have wy := why_box h hb6 hw50 hk
  by_cases hl : bt lk k = true
  · have hkn : k < nk := by
      rcases hk with hk | ⟨hk, rfl⟩
      · exact hk
      · rw [t5 0 (by omega)] at hl; cases hl
    rw [if_pos hl] at wy
    by_cases hc : wea k < mw
    · rw [if_pos hc] at wy
      have mk := makeBox_eq (st := r.1) (by omega : nb < 20) b2 (nI k)
      have hS := box_sim hL hb6 (nI k)
      have hM : ∃ m, m < 64 ∧ stBox r.1 nb (nI k) (4 + 4 * k + 2) = nI m := by
        obtain ⟨⟨m, q1, q2⟩, -⟩ := c3 k hkn
        refine ⟨m, by omega, ?_⟩
        unfold stBox
        rw [pk_un (by omega), pk_un (by omega), pk_un (by omega), (hK k hkn).2.2.1, q2]
      obtain ⟨st', q', k', w', w1, w2, w3, -⟩ := wrap_sim hS (by omega) hkn hM (x := -6) (X := 7) (y := nb) (Or.inr ⟨rfl, rfl⟩) (by omega)
      have w2' : fL_wrap (upd qv 2 (nI (nb + 1))) kev wrv 7 (nI nb) (nI k) = some (q', k', w') := w2
      have hb3 : stBox r.1 nb (nI k) (84 + 2 * nb) = nI k := by
        unfold stBox
        rw [pk_un (by omega), pk_un (by omega), pk_us]
      have wk : fX8_wrapBox (stBox r.1 nb (nI k)) (nI nb) = some st' := by
        unfold fX8_wrapBox
        rw [box0 (by omega), Option.bind_some, hb3, w1, Option.bind_some]
      rw [wk, Option.bind_some] at mk
      obtain ⟨c', r', g1, g2, g3⟩ := yes_box (nI k) (step_box hI (nI k)) wy mk
      rw [g1, Option.bind_some, if_pos hl, if_pos hc, if_neg n10, if_neg q2i, cl2, a2]
      unfold fL_law_b363
      rw [if_pos rfl, if_neg n10]
      unfold fL_law_b376
      rw [cl2, a2, i2, i2p1, if_neg q2j, if_neg (nI_in (by omega) (by omega)), if_neg q2j, if_neg (nI_in (by omega) (by omega)), if_neg q2j, if_neg q2j, nI_clamp (by omega), nI_clamp (by omega), nI_1, w2', Option.bind_some]
      exact fin_1208 g2 (by rw [g3]; exact w3) (by omega) ht hgo opv x8
    · rw [if_neg hc] at wy
      obtain ⟨c', r', g1, g2, g3⟩ := no_box (nI k) (step_box hI (nI k)) wy (by decide)
      rw [g1, Option.bind_some, if_pos hl, if_neg hc, if_pos rfl, if_pos hl, if_neg n10]
      unfold fL_law_b363
      rw [if_pos rfl, if_pos rfl]
      exact fin_1229 g2 (by rw [g3]; exact hL) (by omega) hgo opv
  · rw [if_neg hl] at wy
    obtain ⟨c', r', g1, g2, g3⟩ := no_box (nI k) (step_box hI (nI k)) wy (by decide)
    rw [g1, Option.bind_some, if_neg hl, if_pos rfl, if_neg hl, if_pos rfl]
    unfold fL_law_b363
    rw [if_pos rfl, if_pos rfl]
    exact fin_1229 g2 (by rw [g3]; exact hL) (by omega) hgo opv
theorem act_wear (hI : Inv0 n ((mw, ke, bo, lk, lb, par, mak, wea, kob, nu, hek, hew, clo, clm, sta), o, R) r) (h : Rel n nk nb nw r.1 mw ke bo lk lb par mak wea kob nu hek hew clo clm sta) (hL : LSt r.1 nk nb nw qv kev bov wrv) (hn : n ≤ 3 * t) (ht : t < 18) (hgo : Go k42 t) (opv : Nat → Int64) (x8 : Int32) : fL_law_b794 L xs k42 qv kev bov wrv opv ((mw, ke, bo, lk, lb, par, mak, wea, kob, nu, hek, hew, clo, clm, sta), o, R) (nI t) x8 = some 1 := by
  obtain ⟨⟨e1, e2, e3⟩, ⟨t1, t2, t3, t4, t5, t6, t7, t8⟩, ⟨c1, ⟨m0, m1, m2, em⟩, c3⟩, hW, hH, hU, ⟨s0, s1, s2, s3⟩, hK, hBx, hR⟩ := id h
  obtain ⟨⟨⟨a0, a1, a2, a3⟩, ⟨b1, b2, b3⟩, n1, n2, n3⟩, hLK, hZ, hLB, hLW⟩ := id hL
  obtain ⟨y, hy, ey⟩ := low_eq (x8 >>> ((4 : Int32) &&& 31)) (n := 8) (by omega) (by omega)
  have ey' : fL_low (x8 >>> ((4 : Int32) &&& 31)) 8 = some (nI y) := ey
  have e2y : (2 : Int32) + nI y = nI (2 + y) := nI_add 2 y
  have hw : ¬ fX8_within (nI (2 + y)) 2 30 = 0 := by
    unfold fX8_within
    rw [if_neg (show ¬ nI (2 + y) < 2 from nI_nlt (a := 2 + y) (b := 2) (by omega) (by omega)), if_neg (show ¬ (30 : Int32) < nI (2 + y) from nI_nlt (a := 30) (b := 2 + y) (by omega) (by omega))]
    exact n10
  obtain ⟨c', r', g1, g2, g3⟩ := yes_wear (step_wear hI (nI (2 + y))) hw
  unfold fL_law_b794
  rw [ey', Option.bind_some, e2y, g1, Option.bind_some, if_neg q0i, cl0, a0, if_pos rfl, if_neg q0j]
  exact fin_1208 g2 (by rw [g3]; exact wear_sim hL _) (by omega) ht hgo opv x8
end ACTS
